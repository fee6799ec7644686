-- ===== the invariant =====
/-- the log's entries from T to H have keys -/
def IK (lk : Nat → Int32) (T H : Nat) : Prop := ∀ p, T ≤ p → p < H → ∃ q, q < 64 ∧ lk (p % 96) = nI q
/-- an index: of each key none and none is due, or the place of an entry of the key with the value that is due -/
def XD (lk lv ix d : Nat → Int32) (T H : Nat) : Prop := ∀ k, k < 64 → (ix k = -1 ∧ d k = -1) ∨ ∃ p v, ix k = nI p ∧ T ≤ p ∧ p < H ∧ lk (p % 96) = nI k ∧ lv (p % 96) = nI v ∧ v < 10000 ∧ d k = nI v
/-- an index: of each key none, or the place of an entry of the key -/
def XP (lk ix : Nat → Int32) (T H : Nat) : Prop := ∀ k, k < 64 → ix k = -1 ∨ ∃ p, ix k = nI p ∧ T ≤ p ∧ p < H ∧ lk (p % 96) = nI k
/-- the checkpoint's index -/
def CI (ci : Nat → Int32) (C : Nat) : Prop := ∀ k, k < 64 → ci k = -1 ∨ ∃ p, ci k = nI p ∧ p < C
/-- without what is below t -/
def dr (t : Nat) (x : Int32) : Int32 := if nI t ≤ x then x else -1
/-- j entries from M on gone through -/
def rg (lk lv f : Nat → Int32) (M : Nat) : Nat → Nat → Int32
  | 0 => f
  | j + 1 => upd (rg lk lv f M j) (lk ((M + j) % 96)).toNatClampNeg (if lv ((M + j) % 96) = -1 then -1 else nI (M + j))
def mx (C T : Nat) : Nat := if C < T then T else C
/-- what a start makes of the checkpoint's index, the tail, the checkpoint's place and the entries up to H -/
def RV (lk lv ci : Nat → Int32) (T C H : Nat) : Nat → Int32 := rg lk lv (fun k => dr T (ci k)) (mx C T) (H - mx C T)
theorem mx_T (C T : Nat) : T ≤ mx C T := by
  unfold mx
  split <;> omega
theorem mx_C (C T : Nat) : C ≤ mx C T := by
  unfold mx
  split <;> omega
theorem mx_le {C T W : Nat} (h1 : C ≤ W) (h2 : T ≤ W) : mx C T ≤ W := by
  unfold mx
  split <;> omega
theorem dr_m1 {t : Nat} : dr t (-1) = -1 := by
  unfold dr
  split <;> rfl
theorem dr_ge {t p : Nat} (h : t ≤ p) (hp : p < 2 ^ 31) : dr t (nI p) = nI p := if_pos (nI_le h hp)
theorem dr_lt {t p : Nat} (h : p < t) (ht : t < 2 ^ 31) : dr t (nI p) = -1 := if_neg (nI_ge h ht)
theorem rg_s (lk lv f : Nat → Int32) (M j : Nat) : rg lk lv f M (j + 1) = upd (rg lk lv f M j) (lk ((M + j) % 96)).toNatClampNeg (if lv ((M + j) % 96) = -1 then -1 else nI (M + j)) := rfl
theorem rg_cong {lk lv lk' lv' f : Nat → Int32} {M : Nat} : ∀ (j : Nat), (∀ p, M ≤ p → p < M + j → lk' (p % 96) = lk (p % 96) ∧ lv' (p % 96) = lv (p % 96)) → rg lk' lv' f M j = rg lk lv f M j := by
  intro j
  induction j with
  | zero => intro _; rfl
  | succ j ih =>
    intro h
    obtain ⟨h1, h2⟩ := h (M + j) (by omega) (by omega)
    rw [rg_s, rg_s, ih (fun p a b => h p a (by omega)), h1, h2]
theorem RV_cong {lk lv lk' lv' ci : Nat → Int32} {T C W : Nat} (h1 : C ≤ W) (h2 : T ≤ W) (h : ∀ p, T ≤ p → p < W → lk' (p % 96) = lk (p % 96) ∧ lv' (p % 96) = lv (p % 96)) : RV lk' lv' ci T C W = RV lk lv ci T C W := by
  have m1 := mx_le h1 h2
  have m2 := mx_T C T
  exact rg_cong _ (fun p a b => h p (by omega) (by omega))
theorem RV_s {lk lv ci : Nat → Int32} {T C H : Nat} (h1 : C ≤ H) (h2 : T ≤ H) : RV lk lv ci T C (H + 1) = upd (RV lk lv ci T C H) (lk (H % 96)).toNatClampNeg (if lv (H % 96) = -1 then -1 else nI H) := by
  have m1 := mx_le h1 h2
  unfold RV
  rw [show H + 1 - mx C T = (H - mx C T) + 1 by omega, rg_s, show mx C T + (H - mx C T) = H by omega]
theorem XD.cg {lk lv ix ix' d d' : Nat → Int32} {T H : Nat} (h : XD lk lv ix d T H) (hi : ∀ k, k < 64 → ix' k = ix k) (hd : ∀ k, k < 64 → d' k = d k) : XD lk lv ix' d' T H := fun k hk => by
  rw [hi k hk, hd k hk]
  exact h k hk
theorem XD.xp {lk lv ix d : Nat → Int32} {T H : Nat} (h : XD lk lv ix d T H) : XP lk ix T H := fun k hk => by
  rcases h k hk with ⟨h1, -⟩ | ⟨p, v, h1, h2, h3, h4, -⟩
  · exact Or.inl h1
  · exact Or.inr ⟨p, h1, h2, h3, h4⟩
/-- what is due is none or a value -/
theorem XD.due {lk lv ix d : Nat → Int32} {T H : Nat} (h : XD lk lv ix d T H) (hH : H < 2 ^ 31) {k : Nat} (hk : k < 64) : (ix k = -1 ∧ d k = -1) ∨ (¬ ix k = -1 ∧ ∃ v, v < 10000 ∧ d k = nI v) := by
  rcases h k hk with h1 | ⟨p, v, h1, h2, h3, h4, h5, h6, h7⟩
  · exact Or.inl h1
  · exact Or.inr ⟨by rw [h1]; exact n_ne1 (by omega), v, h6, h7⟩
/-- an index of the log's entries below H -/
theorem rg_lt {lk lv f : Nat → Int32} {M : Nat} (hf : ∀ k, k < 64 → f k = -1 ∨ ∃ p, f k = nI p ∧ p < M) : ∀ (j k : Nat), k < 64 → rg lk lv f M j k = -1 ∨ ∃ p, rg lk lv f M j k = nI p ∧ p < M + j := by
  intro j
  induction j with
  | zero => intro k hk; exact hf k hk
  | succ j ih =>
    intro k hk
    rw [rg_s]
    by_cases e : k = (lk ((M + j) % 96)).toNatClampNeg
    · rw [← e, pk_us]
      by_cases c : lv ((M + j) % 96) = -1
      · rw [if_pos c]; exact Or.inl rfl
      · rw [if_neg c]; exact Or.inr ⟨M + j, rfl, by omega⟩
    · rw [pk_un e]
      rcases ih k hk with h | ⟨p, h1, h2⟩
      · exact Or.inl h
      · exact Or.inr ⟨p, h1, by omega⟩
theorem dr_CI {ci : Nat → Int32} {C T M : Nat} (h : CI ci C) (hM : C ≤ M) (h9 : M < 2 ^ 31) : ∀ k, k < 64 → dr T (ci k) = -1 ∨ ∃ p, dr T (ci k) = nI p ∧ p < M := fun k hk => by
  unfold dr
  split
  · rcases h k hk with e | ⟨p, e1, e2⟩
    · exact Or.inl e
    · exact Or.inr ⟨p, e1, by omega⟩
  · exact Or.inl rfl
theorem dr_dr {t t' : Nat} {x : Int32} (h : t ≤ t') (ht : t' < 2 ^ 31) (hx : x = -1 ∨ ∃ p, x = nI p ∧ p < 2 ^ 31) : dr t' (dr t x) = dr t' x := by
  rcases hx with rfl | ⟨p, rfl, hp⟩
  · rw [dr_m1, dr_m1]
  · by_cases c : t ≤ p
    · rw [dr_ge c hp]
    · rw [dr_lt (by omega) (by omega), dr_m1, dr_lt (by omega) ht]
/-- the tail's move takes out of what a start makes the places below the new tail, and nothing else -/
theorem RV_dr {lk lv ci : Nat → Int32} {T T' C : Nat} (hC : CI ci C) (hT : T ≤ T') (hT9 : T' < 2 ^ 31) (hC9 : C < 2 ^ 31) : ∀ (j h : Nat), h = mx C T' + j → h < 2 ^ 31 → ∀ k, k < 64 → RV lk lv ci T' C h k = dr T' (RV lk lv ci T C h k) := by
  have m1 := mx_T C T'
  have m2 := mx_C C T'
  have m3 : mx C T ≤ mx C T' := mx_le m2 (by omega)
  intro j
  induction j with
  | zero =>
    intro h e h9 k hk
    have e1 : h - mx C T' = 0 := by omega
    have e2 : RV lk lv ci T' C h k = dr T' (ci k) := by
      unfold RV
      rw [e1]
      rfl
    rw [e2]
    by_cases c : C < T'
    · have e0 : mx C T' = T' := if_pos c
      have e3 : h = T' := by omega
      have l1 : dr T' (ci k) = -1 := by
        rcases hC k hk with q | ⟨p, q1, q2⟩
        · rw [q, dr_m1]
        · rw [q1, dr_lt (by omega) hT9]
      rw [l1]
      have l2 := rg_lt (lk := lk) (lv := lv) (dr_CI (T := T) hC (mx_C C T) (by omega)) (h - mx C T) k hk
      show -1 = dr T' (rg lk lv (fun k => dr T (ci k)) (mx C T) (h - mx C T) k)
      rcases l2 with q | ⟨p, q1, q2⟩
      · rw [q, dr_m1]
      · rw [q1, dr_lt (by omega) hT9]
    · have e6 : mx C T' = C := if_neg c
      have e7 : mx C T = C := if_neg (by omega)
      have e4 : mx C T = mx C T' := by omega
      have e5 : RV lk lv ci T C h k = dr T (ci k) := by
        unfold RV
        rw [e4, e1]
        rfl
      rw [e5]
      exact (dr_dr hT hT9 (by
        rcases hC k hk with q | ⟨p, q1, q2⟩
        · exact Or.inl q
        · exact Or.inr ⟨p, q1, by omega⟩)).symm
  | succ j ih =>
    intro h e h9 k hk
    obtain ⟨g, rfl⟩ : ∃ g, h = g + 1 := ⟨h - 1, by omega⟩
    have h1 := ih g (by omega) (by omega) k hk
    rw [RV_s (by omega) (by omega), RV_s (by omega) (by omega)]
    by_cases q : k = (lk (g % 96)).toNatClampNeg
    · rw [← q, pk_us, pk_us]
      by_cases c : lv (g % 96) = -1
      · rw [if_pos c, dr_m1]
      · rw [if_neg c, dr_ge (by omega) (by omega)]
    · rw [pk_un q, pk_un q, h1]
/-- THE INVARIANT, up: what the class holds, with d due, and sf due after a failure of power -/
def IN (κ : KS) (d sf : Nat → Int32) (N H T W C : Nat) : Prop :=
  (kUp κ = 1 ∧ kAh κ = -1 ∧ kHd κ = nI H ∧ kTl κ = nI T ∧ kWr κ = nI W ∧ kCt κ = nI C) ∧
  (T ≤ W ∧ W ≤ H ∧ C ≤ W ∧ H ≤ T / 8 * 8 + 96 ∧ H ≤ N ∧ N ≤ 100000) ∧
  IK (kLk κ) T H ∧ CI (kCi κ) C ∧ XD (kLk κ) (kLv κ) (kIx κ) d T H ∧
  (∀ k, k < 64 → RV (kLk κ) (kLv κ) (kCi κ) T C H k = kIx κ k) ∧ XD (kLk κ) (kLv κ) (RV (kLk κ) (kLv κ) (kCi κ) T C W) sf T W
/-- .. down -/
def ID (κ : KS) (sf : Nat → Int32) (N T W C : Nat) : Prop :=
  (kUp κ = 0 ∧ kAh κ = -1 ∧ kHd κ = nI W ∧ kTl κ = nI T ∧ kWr κ = nI W ∧ kCt κ = nI C) ∧
  (T ≤ W ∧ C ≤ W ∧ W ≤ T / 8 * 8 + 96 ∧ W ≤ N ∧ N ≤ 100000) ∧
  IK (kLk κ) T W ∧ CI (kCi κ) C ∧ XD (kLk κ) (kLv κ) (RV (kLk κ) (kLv κ) (kCi κ) T C W) sf T W
/-- what a start needs -/
def IR (κ : KS) (sf : Nat → Int32) (T W C : Nat) : Prop :=
  (kTl κ = nI T ∧ kWr κ = nI W ∧ kCt κ = nI C) ∧ (T ≤ W ∧ C ≤ W ∧ W ≤ T / 8 * 8 + 96 ∧ W ≤ 100000) ∧
  IK (kLk κ) T W ∧ CI (kCi κ) C ∧ XD (kLk κ) (kLv κ) (RV (kLk κ) (kLv κ) (kCi κ) T C W) sf T W
theorem IN.ir {κ : KS} {d sf : Nat → Int32} {N H T W C : Nat} (h : IN κ d sf N H T W C) : IR κ sf T W C := by
  obtain ⟨⟨a1, a2, a3, a4, a5, a6⟩, ⟨c1, c2, c3, c4, c5, c6⟩, hI, hC, hX, hJ, hW⟩ := h
  exact ⟨⟨a4, a5, a6⟩, ⟨c1, c3, by omega, by omega⟩, fun p p1 p2 => hI p p1 (by omega), hC, hW⟩
theorem ID.ir {κ : KS} {sf : Nat → Int32} {N T W C : Nat} (h : ID κ sf N T W C) : IR κ sf T W C := by
  obtain ⟨⟨a1, a2, a3, a4, a5, a6⟩, ⟨c1, c3, c4, c5, c6⟩, hI, hC, hW⟩ := h
  exact ⟨⟨a4, a5, a6⟩, ⟨c1, c3, c4, by omega⟩, hI, hC, hW⟩
theorem IN.mono {κ : KS} {d sf : Nat → Int32} {N N' H T W C : Nat} (h : IN κ d sf N H T W C) (hN : N ≤ N') (h9 : N' ≤ 100000) : IN κ d sf N' H T W C := by
  obtain ⟨a, ⟨c1, c2, c3, c4, c5, c6⟩, r⟩ := h
  exact ⟨a, ⟨c1, c2, c3, c4, by omega, h9⟩, r⟩
theorem ID.mono {κ : KS} {sf : Nat → Int32} {N N' T W C : Nat} (h : ID κ sf N T W C) (hN : N ≤ N') (h9 : N' ≤ 100000) : ID κ sf N' T W C := by
  obtain ⟨a, ⟨c1, c3, c4, c5, c6⟩, r⟩ := h
  exact ⟨a, ⟨c1, c3, c4, by omega, h9⟩, r⟩
theorem IN.cgd {κ : KS} {d d' sf : Nat → Int32} {N H T W C : Nat} (h : IN κ d sf N H T W C) (hd : ∀ k, k < 64 → d' k = d k) : IN κ d' sf N H T W C := by
  obtain ⟨a, c, hI, hC, hX, r⟩ := h
  exact ⟨a, c, hI, hC, hX.cg (fun _ _ => rfl) hd, r⟩
theorem IN.cgs {κ : KS} {d sf sf' : Nat → Int32} {N H T W C : Nat} (h : IN κ d sf N H T W C) (hd : ∀ k, k < 64 → sf' k = sf k) : IN κ d sf' N H T W C := by
  obtain ⟨a, c, hI, hC, hX, hJ, hW⟩ := h
  exact ⟨a, c, hI, hC, hX, hJ, hW.cg (fun _ _ => rfl) hd⟩
theorem ID.cgs {κ : KS} {sf sf' : Nat → Int32} {N T W C : Nat} (h : ID κ sf N T W C) (hd : ∀ k, k < 64 → sf' k = sf k) : ID κ sf' N T W C := by
  obtain ⟨a, c, hI, hC, hW⟩ := h
  exact ⟨a, c, hI, hC, hW.cg (fun _ _ => rfl) hd⟩
/-- one entry more -/
theorem IN.app {κ : KS} {d sf : Nat → Int32} {N H T W C : Nat} (h : IN κ d sf N H T W C) (hr : H + 1 ≤ T / 8 * 8 + 96) (h9 : N + 1 ≤ 100000) {q : Nat} (hq : q < 64) {v : Int32} (hv : v = -1 ∨ ∃ u, u < 10000 ∧ v = nI u) : IN (kapp κ q v H) (upd d q v) sf (N + 1) (H + 1) T W C := by
  obtain ⟨⟨a1, a2, a3, a4, a5, a6⟩, ⟨c1, c2, c3, c4, c5, c6⟩, hI, hC, hX, hJ, hW⟩ := h
  have ne96 : ∀ p, T ≤ p → p < H → p % 96 ≠ H % 96 := fun p h1 h2 => by omega
  have e1 : ∀ p, T ≤ p → p < H → upd (kLk κ) (H % 96) (nI q) (p % 96) = kLk κ (p % 96) ∧ upd (kLv κ) (H % 96) v (p % 96) = kLv κ (p % 96) := fun p h1 h2 => ⟨pk_un (ne96 p h1 h2), pk_un (ne96 p h1 h2)⟩
  have eR : ∀ K, W ≤ K → K ≤ H → RV (upd (kLk κ) (H % 96) (nI q)) (upd (kLv κ) (H % 96) v) (kCi κ) T C K = RV (kLk κ) (kLv κ) (kCi κ) T C K := fun K k1 k2 => RV_cong (by omega) (by omega) (fun p p1 p2 => e1 p p1 (by omega))
  refine ⟨⟨a1, a2, rfl, a4, a5, a6⟩, ⟨c1, by omega, c3, hr, by omega, h9⟩, ?_, hC, ?_, ?_, ?_⟩
  · intro p h1 h2
    show ∃ q1, q1 < 64 ∧ upd (kLk κ) (H % 96) (nI q) (p % 96) = nI q1
    by_cases e : p = H
    · subst e
      rw [pk_us]
      exact ⟨q, hq, rfl⟩
    · rw [(e1 p h1 (by omega)).1]
      exact hI p h1 (by omega)
  · intro k hk
    show (upd (kIx κ) q (if v = -1 then -1 else nI H) k = -1 ∧ upd d q v k = -1) ∨ ∃ p u, upd (kIx κ) q (if v = -1 then -1 else nI H) k = nI p ∧ T ≤ p ∧ p < H + 1 ∧ upd (kLk κ) (H % 96) (nI q) (p % 96) = nI k ∧ upd (kLv κ) (H % 96) v (p % 96) = nI u ∧ u < 10000 ∧ upd d q v k = nI u
    by_cases e : k = q
    · subst e
      rw [pk_us, pk_us]
      rcases hv with hv | ⟨u, hu, hv⟩
      · exact Or.inl ⟨if_pos hv, hv⟩
      · refine Or.inr ⟨H, u, if_neg (by rw [hv]; exact n_ne1 (by omega)), by omega, by omega, pk_us, ?_, hu, hv⟩
        rw [pk_us]; exact hv
    · rw [pk_un e, pk_un e]
      rcases hX k hk with e2 | ⟨p, u, f1, f2, f3, f4, f5, f6, f7⟩
      · exact Or.inl e2
      · exact Or.inr ⟨p, u, f1, f2, by omega, by rw [(e1 p f2 f3).1]; exact f4, by rw [(e1 p f2 f3).2]; exact f5, f6, f7⟩
  · intro k hk
    show RV (upd (kLk κ) (H % 96) (nI q)) (upd (kLv κ) (H % 96) v) (kCi κ) T C (H + 1) k = upd (kIx κ) q (if v = -1 then -1 else nI H) k
    rw [RV_s (by omega) (by omega), pk_us, pk_us, eR H c2 (Nat.le_refl _), nI_clamp (by omega)]
    by_cases e : k = q
    · subst e
      rw [pk_us, pk_us]
    · rw [pk_un e, pk_un e]
      exact hJ k hk
  · intro k hk
    show (RV (upd (kLk κ) (H % 96) (nI q)) (upd (kLv κ) (H % 96) v) (kCi κ) T C W k = -1 ∧ sf k = -1) ∨ ∃ p u, RV (upd (kLk κ) (H % 96) (nI q)) (upd (kLv κ) (H % 96) v) (kCi κ) T C W k = nI p ∧ T ≤ p ∧ p < W ∧ upd (kLk κ) (H % 96) (nI q) (p % 96) = nI k ∧ upd (kLv κ) (H % 96) v (p % 96) = nI u ∧ u < 10000 ∧ sf k = nI u
    rw [eR W (Nat.le_refl _) c2]
    rcases hW k hk with e2 | ⟨p, u, f1, f2, f3, f4, f5, f6, f7⟩
    · exact Or.inl e2
    · exact Or.inr ⟨p, u, f1, f2, f3, by rw [(e1 p f2 (by omega)).1]; exact f4, by rw [(e1 p f2 (by omega)).2]; exact f5, f6, f7⟩
/-- all entries written -/
theorem IN.sync {κ : KS} {d sf : Nat → Int32} {N H T W C : Nat} (h : IN κ d sf N H T W C) : IN (kSWr κ (nI H)) d d N H T H C := by
  obtain ⟨⟨a1, a2, a3, a4, a5, a6⟩, ⟨c1, c2, c3, c4, c5, c6⟩, hI, hC, hX, hJ, hW⟩ := h
  exact ⟨⟨a1, a2, a3, a4, rfl, a6⟩, ⟨by omega, Nat.le_refl _, by omega, c4, c5, c6⟩, hI, hC, hX, hJ, hX.cg hJ (fun _ _ => rfl)⟩
/-- a checkpoint -/
theorem IN.ckpt {κ : KS} {d : Nat → Int32} {N H T C : Nat} (h : IN κ d d N H T H C) {f : Nat → Int32} (hf : ∀ k, k < 64 → f k = kIx κ k) : IN (kSCt (kSCi κ f) (nI H)) d d N H T H H := by
  obtain ⟨⟨a1, a2, a3, a4, a5, a6⟩, ⟨c1, c2, c3, c4, c5, c6⟩, hI, hC, hX, hJ, hW⟩ := h
  have hm : mx H T = H := by
    unfold mx
    rw [if_neg (by omega)]
  have hR : ∀ k, k < 64 → RV (kLk κ) (kLv κ) f T H H k = kIx κ k := fun k hk => by
    unfold RV
    rw [hm, Nat.sub_self]
    show dr T (f k) = kIx κ k
    rw [hf k hk]
    rcases hX k hk with ⟨e, -⟩ | ⟨p, u, f1, f2, f3, -⟩
    · rw [e, dr_m1]
    · rw [f1, dr_ge f2 (by omega)]
  refine ⟨⟨a1, a2, a3, a4, a5, rfl⟩, ⟨c1, c2, Nat.le_refl _, c4, c5, c6⟩, hI, ?_, hX, hR, hX.cg hR (fun _ _ => rfl)⟩
  intro k hk
  show f k = -1 ∨ ∃ p, f k = nI p ∧ p < H
  rw [hf k hk]
  rcases hX k hk with ⟨e, -⟩ | ⟨p, u, f1, f2, f3, -⟩
  · exact Or.inl e
  · exact Or.inr ⟨p, f1, f3⟩
/-- the tail moves -/
theorem IN.tail {κ : KS} {d : Nat → Int32} {N H T C e : Nat} (h : IN κ d d N H T H C) (he : T + e ≤ H) (hp : ∀ k, k < 64 → kIx κ k = -1 ∨ ∃ p, kIx κ k = nI p ∧ T + e ≤ p ∧ p < 2 ^ 31) : IN (kSTl κ (nI (T + e))) d d N H (T + e) H C := by
  obtain ⟨⟨a1, a2, a3, a4, a5, a6⟩, ⟨c1, c2, c3, c4, c5, c6⟩, hI, hC, hX, hJ, hW⟩ := h
  have m1 := mx_le c3 he
  have hJ2 : ∀ k, k < 64 → RV (kLk κ) (kLv κ) (kCi κ) (T + e) C H k = kIx κ k := fun k hk => by
    rw [RV_dr hC (show T ≤ T + e by omega) (by omega) (by omega) (H - mx C (T + e)) H (by omega) (by omega) k hk, hJ k hk]
    rcases hp k hk with z | ⟨p, z1, z2, z3⟩
    · rw [z, dr_m1]
    · rw [z1, dr_ge z2 z3]
  have hX2 : XD (kLk κ) (kLv κ) (kIx κ) d (T + e) H := fun k hk => by
    rcases hX k hk with z | ⟨p, u, f1, f2, f3, f4⟩
    · exact Or.inl z
    · refine Or.inr ⟨p, u, f1, ?_, f3, f4⟩
      rcases hp k hk with z | ⟨p2, z1, z2, z3⟩
      · rw [f1] at z
        exact absurd z (n_ne1 (by omega))
      · rw [f1] at z1
        have := (nI_eq (by omega) z3).mp z1
        omega
  exact ⟨⟨a1, a2, a3, rfl, a5, a6⟩, ⟨he, c2, c3, by omega, c5, c6⟩, fun p p1 p2 => hI p (by omega) p2, hC, hX2, hJ2, hX2.cg hJ2 (fun _ _ => rfl)⟩
theorem IN.crash {κ : KS} {d sf : Nat → Int32} {N H T W C : Nat} (h : IN κ d sf N H T W C) : ID (v_X2_losePower κ) sf N T W C := by
  obtain ⟨⟨a1, a2, a3, a4, a5, a6⟩, ⟨c1, c2, c3, c4, c5, c6⟩, hI, hC, hX, hJ, hW⟩ := h
  exact ⟨⟨rfl, a2, a5, a4, a5, a6⟩, ⟨c1, c3, by omega, by omega, c6⟩, fun p p1 p2 => hI p p1 (by omega), hC, hW⟩
theorem ID.start {κ : KS} {sf : Nat → Int32} {N T W C : Nat} (h : ID κ sf N T W C) {f : Nat → Int32} (hf : ∀ k, k < 64 → f k = RV (kLk κ) (kLv κ) (kCi κ) T C W k) : IN (kSUp (kSIx κ f) 1) sf sf N W T W C := by
  obtain ⟨⟨a1, a2, a3, a4, a5, a6⟩, ⟨c1, c3, c4, c5, c6⟩, hI, hC, hW⟩ := h
  exact ⟨⟨rfl, a2, a3, a4, a5, a6⟩, ⟨c1, Nat.le_refl _, c3, c4, c5, c6⟩, hI, hC, hW.cg hf (fun _ _ => rfl), fun k hk => (hf k hk).symm, hW⟩
theorem IN.tr {κ : KS} {d sf : Nat → Int32} {N H T W C : Nat} (h : IN κ d sf N H T W C) (f : Nat → Int32) : IN (kSTr κ f) d sf N H T W C := h
theorem ID.tr {κ : KS} {sf : Nat → Int32} {N T W C : Nat} (h : ID κ sf N T W C) (f : Nat → Int32) : ID (kSTr κ f) sf N T W C := h
/-- a new object -/
theorem IN.new {κ : KS} {d sf : Nat → Int32} (h1 : kUp κ = 1) (h2 : kHd κ = 0) (h3 : kTl κ = 0) (h4 : kWr κ = 0) (h5 : kCt κ = 0) (h6 : kAh κ = -1) (h7 : ∀ k, k < 64 → kIx κ k = -1) (h8 : ∀ k, k < 64 → kCi κ k = -1) (hd : ∀ k, k < 64 → d k = -1) (hs : ∀ k, k < 64 → sf k = -1) : IN κ d sf 0 0 0 0 0 := by
  have hR : ∀ k, k < 64 → RV (kLk κ) (kLv κ) (kCi κ) 0 0 0 k = -1 := fun k hk => by
    show dr 0 (kCi κ k) = -1
    rw [h8 k hk, dr_m1]
  refine ⟨⟨h1, h6, ?_, ?_, ?_, ?_⟩, by omega, fun p p1 p2 => absurd p2 (Nat.not_lt_zero p), fun k hk => Or.inl (h8 k hk), fun k hk => Or.inl ⟨h7 k hk, hd k hk⟩, fun k hk => by rw [hR k hk, h7 k hk], fun k hk => Or.inl ⟨hR k hk, hs k hk⟩⟩
  · rw [h2, nI_0]
  · rw [h3, nI_0]
  · rw [h4, nI_0]
  · rw [h5, nI_0]

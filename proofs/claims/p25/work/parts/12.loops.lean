-- ===== rows that run over the 64 keys =====
theorem sc {n j : Nat} (h : j < n) : ∃ m, n = m + 1 := ⟨n - 1, by omega⟩
theorem takeFrom_l (g : Nat → Int32) : ∀ (j n i : Nat) (f : Nat → Int32), i + j = 64 → j < n → (∀ k, k < i → f k = g k) → sl_X0_takeFrom_2 g n f (nI i) ∧ ∀ k, k < 64 → (l_X0_takeFrom_2 g n f (nI i)).1 k = g k := by
  intro j
  induction j with
  | zero =>
    intro n i f hi hn hf
    obtain ⟨n, rfl⟩ := sc hn
    have h64 : (64 : Int32) ≤ nI i := (le64 (by omega)).mpr (by omega)
    rw [sl_X0_takeFrom_2_s, l_X0_takeFrom_2_s, if_pos h64]
    exact ⟨⟨fun _ => trivial, fun h => absurd h64 h⟩, fun k hk => hf k (by omega)⟩
  | succ j ih =>
    intro n i f hi hn hf
    obtain ⟨n, rfl⟩ := sc hn
    have h64 : ¬ (64 : Int32) ≤ nI i := fun e => absurd ((le64 (by omega)).mp e) (by omega)
    rw [sl_X0_takeFrom_2_s, l_X0_takeFrom_2_s, if_neg h64, find_n g (by omega), nI_clamp (by omega), nI_1]
    have h1 := ih n (i + 1) (upd f i (g i)) (by omega) (by omega) (fun k hk => by
      by_cases e : k = i
      · subst e; exact pk_us
      · rw [pk_un e]; exact hf k (by omega))
    exact ⟨⟨fun h => absurd h h64, fun _ => ⟨vp_in_nI (by omega) (by decide), h1.1⟩⟩, h1.2⟩
theorem takeFrom_v (g f : Nat → Int32) : s_X0_takeFrom g f ∧ ∀ k, k < 64 → v_X0_takeFrom g f k = g k := by
  have h := takeFrom_l g 64 100 0 f (by omega) (by omega) (fun k hk => by omega)
  rw [nI_0] at h
  exact ⟨⟨h.1, trivial⟩, h.2⟩
theorem dropBelow_l (t : Int32) (f0 : Nat → Int32) : ∀ (j n i : Nat) (f : Nat → Int32), i + j = 64 → j < n → (∀ k, k < 64 → f k = if k < i then (if t ≤ f0 k then f0 k else -1) else f0 k) → sl_X0_dropBelow_2 t n f (nI i) ∧ ∀ k, k < 64 → (l_X0_dropBelow_2 t n f (nI i)).1 k = if t ≤ f0 k then f0 k else -1 := by
  intro j
  induction j with
  | zero =>
    intro n i f hi hn hf
    obtain ⟨n, rfl⟩ := sc hn
    have h64 : (64 : Int32) ≤ nI i := (le64 (by omega)).mpr (by omega)
    rw [sl_X0_dropBelow_2_s, l_X0_dropBelow_2_s, if_pos h64]
    exact ⟨⟨fun _ => trivial, fun h => absurd h64 h⟩, fun k hk => by
      show f k = _
      rw [hf k hk, if_pos (show k < i by omega)]⟩
  | succ j ih =>
    intro n i f hi hn hf
    obtain ⟨n, rfl⟩ := sc hn
    have h64 : ¬ (64 : Int32) ≤ nI i := fun e => absurd ((le64 (by omega)).mp e) (by omega)
    have hin : vp_in (nI i) 64 := vp_in_nI (by omega) (by decide)
    have hfi : f i = f0 i := by rw [hf i (by omega), if_neg (by omega)]
    rw [sl_X0_dropBelow_2_s, l_X0_dropBelow_2_s, if_neg h64, nI_clamp (by omega), nI_1]
    have h1 := ih n (i + 1) (if t ≤ f i then f else upd f i (-1)) (by omega) (by omega) (fun k hk => by
      by_cases e : k = i
      · subst e
        rw [if_pos (show k < k + 1 by omega)]
        by_cases c : t ≤ f k
        · rw [if_pos c, hfi, if_pos (by rw [← hfi]; exact c)]
        · rw [if_neg c, pk_us, if_neg (by rw [← hfi]; exact c)]
      · have h2 : (if t ≤ f i then f else upd f i (-1)) k = f k := by
          by_cases c : t ≤ f i
          · rw [if_pos c]
          · rw [if_neg c, pk_un e]
        rw [h2, hf k hk]
        by_cases e2 : k < i
        · rw [if_pos e2, if_pos (show k < i + 1 by omega)]
        · rw [if_neg e2, if_neg (show ¬ k < i + 1 by omega)])
    exact ⟨⟨fun h => absurd h h64, fun _ => ⟨hin, ⟨⟨fun _ => trivial, fun _ => ⟨hin, trivial⟩⟩, h1.1⟩⟩⟩, h1.2⟩
theorem dropBelow_v (f : Nat → Int32) (t : Int32) : s_X0_dropBelow f t ∧ ∀ k, k < 64 → v_X0_dropBelow f t k = if t ≤ f k then f k else -1 := by
  have h := dropBelow_l t f 64 100 0 f (by omega) (by omega) (fun k hk => by rw [if_neg (by omega)])
  rw [nI_0] at h
  exact ⟨⟨h.1, trivial⟩, h.2⟩
-- ===== counting =====
def cnt (P : Nat → Bool) : Nat → Nat → Nat
  | 0, _ => 0
  | j + 1, i => (if P i then 1 else 0) + cnt P j (i + 1)
theorem cnt_le (P : Nat → Bool) : ∀ (j i : Nat), cnt P j i ≤ j := by
  intro j
  induction j with
  | zero => intro i; exact Nat.le_refl 0
  | succ j ih =>
    intro i
    have h := ih (i + 1)
    show (if P i then 1 else 0) + cnt P j (i + 1) ≤ j + 1
    split <;> omega
theorem cnt_cong {P Q : Nat → Bool} : ∀ (j i : Nat), (∀ p, i ≤ p → p < i + j → P p = Q p) → cnt P j i = cnt Q j i := by
  intro j
  induction j with
  | zero => intro i _; rfl
  | succ j ih =>
    intro i h
    show (if P i then 1 else 0) + cnt P j (i + 1) = (if Q i then 1 else 0) + cnt Q j (i + 1)
    rw [h i (by omega) (by omega), ih (i + 1) (fun p h1 h2 => h p (by omega) (by omega))]
theorem cnt_fb (P : Nat → Bool) : ∀ (j i : Nat), cnt P j i = fb_ct (fun r => P (i + r)) j := by
  intro j
  induction j with
  | zero => intro i; rfl
  | succ j ih =>
    intro i
    show (if P i then 1 else 0) + cnt P j (i + 1) = _
    rw [ih (i + 1), show j + 1 = 1 + j by omega, fb_ct_split _ 1 j]
    show _ = (0 + (if P (i + 0) then 1 else 0)) + fb_ct (fun k => P (i + (1 + k))) j
    rw [Nat.zero_add, Nat.add_zero]
    exact congrArg (fun z => (if P i then 1 else 0) + z) (fb_ct_cong (fun k _ => by rw [show i + 1 + k = i + (1 + k) by omega]))
theorem ct_one {n q : Nat} (b : Bool) (h : q < n) : fb_ct (fun k => if k = q then b else false) n = if b then 1 else 0 := by
  have h1 := fb_ct_upd (fun _ => false) b h
  have h2 : fb_ct (fun _ => false) n = 0 := fb_ct_zero.mpr (fun _ _ => rfl)
  rw [h2] at h1
  simpa using h1
-- ===== live entries =====
def lvb (lk ix : Nat → Int32) (p : Nat) : Bool := decide (ix (lk (p % 96)).toNatClampNeg = nI p)
theorem lvb_q {lk ix : Nat → Int32} {p q : Nat} (hq : q < 64) (hk : lk (p % 96) = nI q) : lvb lk ix p = decide (ix q = nI p) := by
  unfold lvb
  rw [hk, nI_clamp (by omega)]
theorem isLive_n {κ : KS} {p q : Nat} (hp : p < 2 ^ 31) (hq : q < 64) (hk : kLk κ (p % 96) = nI q) : v_X2_isLive κ (nI p) = if kIx κ q = nI p then 1 else 0 := by
  unfold v_X2_isLive
  rw [keyAt_n _ hp]
  show (if v_X0_find (kIx κ) (kLk κ (p % 96)) = nI p then 1 else 0 : Int32) = _
  rw [hk, find_n _ hq]
theorem isLive_s (κ : KS) (p : Int32) : s_X2_isLive κ p := ⟨keyAt_s _ _, trivial⟩
-- ===== next =====
def nx (f : Nat → Int32) : Nat → Nat → Int32
  | 0, _ => -1
  | j + 1, i => if f i = -1 then nx f j (i + 1) else nI i
theorem has_n (f : Nat → Int32) {k : Nat} (h : k < 64) : v_X0_has f (nI k) = if f k = -1 then 0 else 1 := by
  unfold v_X0_has
  rw [find_n f h]
theorem nextk_l (κ : KS) (y : Int32) : ∀ (j n i : Nat), i + j = 64 → j < n → sl_X2_next_10 κ y n (nI i) ∧ l_X2_next_10 κ y n (nI i) = nx (kIx κ) j i := by
  intro j
  induction j with
  | zero =>
    intro n i hi hn
    obtain ⟨n, rfl⟩ := sc hn
    have h64 : (64 : Int32) ≤ nI i := (le64 (by omega)).mpr (by omega)
    rw [sl_X2_next_10_s, l_X2_next_10_s, if_pos h64]
    exact ⟨⟨fun _ => trivial, fun h => absurd h64 h⟩, rfl⟩
  | succ j ih =>
    intro n i hi hn
    obtain ⟨n, rfl⟩ := sc hn
    have h64 : ¬ (64 : Int32) ≤ nI i := fun e => absurd ((le64 (by omega)).mp e) (by omega)
    rw [sl_X2_next_10_s, l_X2_next_10_s, if_neg h64, has_n _ (by omega), nI_1]
    have h1 := ih n (i + 1) (by omega) (by omega)
    show _ ∧ _ = (if kIx κ i = -1 then nx (kIx κ) j (i + 1) else nI i)
    by_cases e : kIx κ i = -1
    · rw [if_pos e, if_pos e, if_pos rfl]
      exact ⟨⟨fun h => absurd h h64, fun _ => ⟨fun _ => h1.1, fun z => absurd rfl z⟩⟩, h1.2⟩
    · rw [if_neg e, if_neg e, if_neg (by decide : ¬ (1 : Int32) = 0)]
      exact ⟨⟨fun h => absurd h h64, fun _ => ⟨fun z => absurd z (by decide), fun _ => trivial⟩⟩, rfl⟩
theorem valueOf_s (κ : KS) (p : Int32) : s_X2_valueOf κ p := ⟨valueAt_s _ _, trivial⟩
-- ===== fetches =====
/-- one of the keys from i on, j of them, lies in the segment S + s -/
def prs (f : Nat → Int32) (S : Nat) : Nat → Nat → Nat → Bool
  | 0, _, _ => false
  | j + 1, i, s => decide (¬ f i = -1 ∧ (f i).toNatClampNeg / 8 = S + s) || prs f S j (i + 1) s
theorem prs_any {f : Nat → Int32} {S s : Nat} : ∀ (j i : Nat), prs f S j i s = true → ∃ k, i ≤ k ∧ k < i + j ∧ ¬ f k = -1 ∧ (f k).toNatClampNeg / 8 = S + s := by
  intro j
  induction j with
  | zero => intro i h; cases h
  | succ j ih =>
    intro i h
    rcases Bool.or_eq_true_iff.mp h with h | h
    · have h2 := of_decide_eq_true h
      exact ⟨i, Nat.le_refl _, by omega, h2.1, h2.2⟩
    · obtain ⟨k, h1, h2, h3⟩ := ih (i + 1) h
      exact ⟨k, by omega, by omega, h3⟩
theorem shl_n : ∀ d, d < 12 → (1 : Int32) <<< (nI d &&& 31) = nI (2 ^ d) := by decide +kernel
theorem bc_n0 : ∀ a, a < 64 → ∀ b, b < 64 → v_J6_bitCount_0f7a4 (nI (64 * a + b)) = nI (fb_ct (fun s => (64 * a + b).testBit s) 12) := by decide +kernel
theorem bc_n (M : Nat) (h : M < 4096) : v_J6_bitCount_0f7a4 (nI M) = nI (fb_ct (fun s => M.testBit s) 12) := by
  have h1 := bc_n0 (M / 64) (by omega) (M % 64) (by omega)
  rw [show 64 * (M / 64) + M % 64 = M by omega] at h1
  exact h1
theorem ct_more {P : Nat → Bool} {a b : Nat} (h : a ≤ b) (hz : ∀ s, a ≤ s → s < b → P s = false) : fb_ct P b = fb_ct P a := by
  obtain ⟨d, rfl⟩ : ∃ d, b = a + d := ⟨b - a, by omega⟩
  rw [fb_ct_split, fb_ct_zero.mpr (fun k hk => hz (a + k) (by omega) (by omega)), Nat.add_zero]
-- ===== recovery =====
theorem reco_i_l (κ : KS) {T W : Nat} (hI : IK (kLk κ) T W) (hW : W < 2 ^ 31) (hkw : kWr κ = nI W) (f0 : Nat → Int32) {M : Nat} (hM : T ≤ M) : ∀ (j n i : Nat) (f : Nat → Int32), i + j = W → j < n → M ≤ i → (∀ k, k < 64 → f k = rg (kLk κ) (kLv κ) f0 M (i - M) k) →
    sl_X2_recover_i_28 n (kSIx κ f) (nI i) ∧ ∃ f', (l_X2_recover_i_28 n (kSIx κ f) (nI i)).1 = kSIx κ f' ∧ ∀ k, k < 64 → f' k = rg (kLk κ) (kLv κ) f0 M (W - M) k := by
  intro j
  induction j with
  | zero =>
    intro n i f hi hn hT hX
    obtain ⟨n, rfl⟩ := sc hn
    have hx : nI W ≤ nI i := nI_le (by omega) (by omega)
    rw [sl_X2_recover_i_28_s, l_X2_recover_i_28_s]
    simp only [kWr_Ix, hkw]
    rw [if_pos hx]
    have e : i = W := by omega
    subst e
    exact ⟨⟨fun _ => trivial, fun h => absurd hx h⟩, f, rfl, hX⟩
  | succ j ih =>
    intro n i f hi hn hT hX
    obtain ⟨n, rfl⟩ := sc hn
    have hi31 : i < 2 ^ 31 := by omega
    have hx : ¬ nI W ≤ nI i := nI_ge (by omega) hW
    obtain ⟨q, hq, k1⟩ := hI i (by omega) (by omega)
    have ef : v_X2_follow_i (kSIx κ f) (nI i) = kSIx κ (upd f q (if kLv κ (i % 96) = -1 then -1 else nI i)) := follow_i_n (κ := kSIx κ f) hi31 hq k1
    rw [sl_X2_recover_i_28_s, l_X2_recover_i_28_s, ef]
    rw [show kWr (kSIx κ f) = nI W from hkw, if_neg hx, nI_1]
    have h1 := ih n (i + 1) (upd f q (if kLv κ (i % 96) = -1 then -1 else nI i)) (by omega) (by omega) (by omega) (fun k hk => by
      rw [show i + 1 - M = (i - M) + 1 by omega, rg_s, show M + (i - M) = i by omega, k1, nI_clamp (by omega)]
      by_cases e : k = q
      · subst e
        rw [pk_us, pk_us]
      · rw [pk_un e, pk_un e]
        exact hX k hk)
    exact ⟨⟨fun h => absurd h hx, fun _ => ⟨⟨valueAt_s _ _, keyAt_s _ _, trivial⟩, h1.1⟩⟩, h1.2⟩
theorem reco_t_l (κ : KS) {T W : Nat} (hI : IK (kLk κ) T W) (hW : W < 2 ^ 31) (hkw : kWr κ = nI W) (f0 : Nat → Int32) {M : Nat} (hM : T ≤ M) : ∀ (j n i : Nat) (f : Nat → Int32), i + j = W → j < n → M ≤ i → (∀ k, k < 64 → f k = rg (kLk κ) (kLv κ) f0 M (i - M) k) →
    sl_X2_recover_t_28 n (kSTr κ f) (nI i) ∧ ∃ f', (l_X2_recover_t_28 n (kSTr κ f) (nI i)).1 = kSTr κ f' ∧ ∀ k, k < 64 → f' k = rg (kLk κ) (kLv κ) f0 M (W - M) k := by
  intro j
  induction j with
  | zero =>
    intro n i f hi hn hT hX
    obtain ⟨n, rfl⟩ := sc hn
    have hx : nI W ≤ nI i := nI_le (by omega) (by omega)
    rw [sl_X2_recover_t_28_s, l_X2_recover_t_28_s]
    simp only [kWr_Tr, hkw]
    rw [if_pos hx]
    have e : i = W := by omega
    subst e
    exact ⟨⟨fun _ => trivial, fun h => absurd hx h⟩, f, rfl, hX⟩
  | succ j ih =>
    intro n i f hi hn hT hX
    obtain ⟨n, rfl⟩ := sc hn
    have hi31 : i < 2 ^ 31 := by omega
    have hx : ¬ nI W ≤ nI i := nI_ge (by omega) hW
    obtain ⟨q, hq, k1⟩ := hI i (by omega) (by omega)
    have ef : v_X2_follow_t (kSTr κ f) (nI i) = kSTr κ (upd f q (if kLv κ (i % 96) = -1 then -1 else nI i)) := follow_t_n (κ := kSTr κ f) hi31 hq k1
    rw [sl_X2_recover_t_28_s, l_X2_recover_t_28_s, ef]
    rw [show kWr (kSTr κ f) = nI W from hkw, if_neg hx, nI_1]
    have h1 := ih n (i + 1) (upd f q (if kLv κ (i % 96) = -1 then -1 else nI i)) (by omega) (by omega) (by omega) (fun k hk => by
      rw [show i + 1 - M = (i - M) + 1 by omega, rg_s, show M + (i - M) = i by omega, k1, nI_clamp (by omega)]
      by_cases e : k = q
      · subst e
        rw [pk_us, pk_us]
      · rw [pk_un e, pk_un e]
        exact hX k hk)
    exact ⟨⟨fun h => absurd h hx, fun _ => ⟨⟨valueAt_s _ _, keyAt_s _ _, trivial⟩, h1.1⟩⟩, h1.2⟩
/-- how many keys an index has -/
theorem size_l (f : Nat → Int32) : ∀ (j n i c : Nat), i + j = 64 → j < n → sl_X0_size_4 f n (nI c) (nI i) ∧ (l_X0_size_4 f n (nI c) (nI i)).1 = nI (c + cnt (fun k => decide (¬ f k = -1)) j i) := by
  intro j
  induction j with
  | zero =>
    intro n i c hi hn
    obtain ⟨n, rfl⟩ := sc hn
    have h64 : (64 : Int32) ≤ nI i := (le64 (by omega)).mpr (by omega)
    rw [sl_X0_size_4_s, l_X0_size_4_s, if_pos h64]
    exact ⟨⟨fun _ => trivial, fun h => absurd h64 h⟩, rfl⟩
  | succ j ih =>
    intro n i c hi hn
    obtain ⟨n, rfl⟩ := sc hn
    have h64 : ¬ (64 : Int32) ≤ nI i := fun e => absurd ((le64 (by omega)).mp e) (by omega)
    have hin : vp_in (nI i) 64 := vp_in_nI (by omega) (by decide)
    rw [sl_X0_size_4_s, l_X0_size_4_s, if_neg h64, nI_clamp (by omega), nI_1 i]
    have hc : cnt (fun k => decide (¬ f k = -1)) (j + 1) i = (if ¬ f i = -1 then 1 else 0) + cnt (fun k => decide (¬ f k = -1)) j (i + 1) := by
      show (if decide (¬ f i = -1) = true then 1 else 0) + _ = _
      simp only [decide_eq_true_eq]
    rw [hc]
    by_cases e : f i = -1
    · rw [if_pos e, if_neg (fun z => z e), Nat.zero_add]
      have h1 := ih n (i + 1) c (by omega) (by omega)
      exact ⟨⟨fun h => absurd h h64, fun _ => ⟨hin, h1.1⟩⟩, h1.2⟩
    · rw [if_neg e, if_pos e, nI_1 c, ← Nat.add_assoc]
      have h1 := ih n (i + 1) (c + 1) (by omega) (by omega)
      exact ⟨⟨fun h => absurd h h64, fun _ => ⟨hin, h1.1⟩⟩, h1.2⟩
/-- how many of the first n keys have something due -/
def MN (d : Nat → Int32) (n : Nat) : Nat := fb_ct (fun k => decide (0 ≤ d k)) n
theorem MN_s (d : Nat → Int32) (n : Nat) : MN d (n + 1) = MN d n + (if 0 ≤ d n then 1 else 0) := by
  show fb_ct (fun k => decide (0 ≤ d k)) n + (if decide (0 ≤ d n) = true then 1 else 0) = _
  simp only [decide_eq_true_eq]
  rfl
theorem MN_le (d : Nat → Int32) (n : Nat) : MN d n ≤ n := fb_ct_le _ n
theorem size_v {lk lv f d : Nat → Int32} {T W : Nat} (h : XD lk lv f d T W) (hW : W < 2 ^ 31) : s_X0_size f ∧ v_X0_size f = nI (MN d 64) := by
  have h1 := size_l f 64 100 0 0 (by omega) (by omega)
  rw [nI_0, Nat.zero_add] at h1
  refine ⟨⟨h1.1, trivial⟩, ?_⟩
  show (l_X0_size_4 f 100 0 0).1 = _
  rw [h1.2, cnt_fb]
  refine congrArg nI (fb_ct_cong (fun k hk => ?_))
  rw [Nat.zero_add]
  refine decide_eq_decide.mpr ?_
  rcases h.due hW hk with ⟨e1, e2⟩ | ⟨e1, v, e2, e3⟩
  · rw [e1, e2]
    exact ⟨fun z => absurd rfl z, fun z => absurd z n_nle1⟩
  · rw [e3]
    exact ⟨fun _ => nI_pos' (by omega), fun _ => e1⟩
-- ===== what a start gives =====
theorem reco_i {κ : KS} {sf : Nat → Int32} {T W C : Nat} (h : IR κ sf T W C) : s_X2_recover_i κ ∧ s_X0_size (kIx (v_X2_recover_i κ)) ∧ v_X0_size (kIx (v_X2_recover_i κ)) = nI (MN sf 64) ∧ ∃ f, v_X2_recover_i κ = kSIx κ f ∧ ∀ k, k < 64 → f k = RV (kLk κ) (kLv κ) (kCi κ) T C W k := by
  obtain ⟨⟨a4, a5, a6⟩, ⟨c1, c3, c4, c5⟩, hI, hC, hX⟩ := h
  obtain ⟨sT, vT⟩ := takeFrom_v (kCi κ) (kIx κ)
  obtain ⟨sD, vD⟩ := dropBelow_v (v_X0_takeFrom (kCi κ) (kIx κ)) (kTl κ)
  have m1 := mx_le c3 c1
  have m2 := mx_T C T
  have ek : (if kCt κ < kTl κ then kTl κ else kCt κ : Int32) = nI (mx C T) := by
    rw [a4, a6]
    unfold mx
    by_cases c : C < T
    · rw [if_pos c, if_pos (nI_lt c (by omega))]
    · rw [if_neg c, if_neg (nI_nlt (by omega) (by omega))]
  have hf0 : ∀ k, k < 64 → v_X0_dropBelow (v_X0_takeFrom (kCi κ) (kIx κ)) (kTl κ) k = rg (kLk κ) (kLv κ) (fun k => dr T (kCi κ k)) (mx C T) (mx C T - mx C T) k := fun k hk => by
    rw [vD k hk, vT k hk, a4, Nat.sub_self]
    rfl
  obtain ⟨sL, f', el, hf⟩ := reco_i_l κ hI (by omega) a5 (fun k => dr T (kCi κ k)) m2 (W - mx C T) 100 (mx C T) _ (by omega) (by omega) (Nat.le_refl _) hf0
  have hv : v_X2_recover_i κ = kSIx κ f' := by
    unfold v_X2_recover_i
    rw [ek]
    exact el
  have hsz := size_v (hX.cg hf (fun _ _ => rfl)) (show W < 2 ^ 31 by omega)
  rw [hv]
  refine ⟨⟨sT, sD, ?_, trivial⟩, hsz.1, hsz.2, f', rfl, hf⟩
  rw [ek]; exact sL
theorem reco_t {κ : KS} {sf : Nat → Int32} {T W C : Nat} (h : IR κ sf T W C) : s_X2_recover_t κ ∧ s_X0_size (kTr (v_X2_recover_t κ)) ∧ v_X0_size (kTr (v_X2_recover_t κ)) = nI (MN sf 64) ∧ ∃ f, v_X2_recover_t κ = kSTr κ f ∧ ∀ k, k < 64 → f k = RV (kLk κ) (kLv κ) (kCi κ) T C W k := by
  obtain ⟨⟨a4, a5, a6⟩, ⟨c1, c3, c4, c5⟩, hI, hC, hX⟩ := h
  obtain ⟨sT, vT⟩ := takeFrom_v (kCi κ) (kTr κ)
  obtain ⟨sD, vD⟩ := dropBelow_v (v_X0_takeFrom (kCi κ) (kTr κ)) (kTl κ)
  have m1 := mx_le c3 c1
  have m2 := mx_T C T
  have ek : (if kCt κ < kTl κ then kTl κ else kCt κ : Int32) = nI (mx C T) := by
    rw [a4, a6]
    unfold mx
    by_cases c : C < T
    · rw [if_pos c, if_pos (nI_lt c (by omega))]
    · rw [if_neg c, if_neg (nI_nlt (by omega) (by omega))]
  have hf0 : ∀ k, k < 64 → v_X0_dropBelow (v_X0_takeFrom (kCi κ) (kTr κ)) (kTl κ) k = rg (kLk κ) (kLv κ) (fun k => dr T (kCi κ k)) (mx C T) (mx C T - mx C T) k := fun k hk => by
    rw [vD k hk, vT k hk, a4, Nat.sub_self]
    rfl
  obtain ⟨sL, f', el, hf⟩ := reco_t_l κ hI (by omega) a5 (fun k => dr T (kCi κ k)) m2 (W - mx C T) 100 (mx C T) _ (by omega) (by omega) (Nat.le_refl _) hf0
  have hv : v_X2_recover_t κ = kSTr κ f' := by
    unfold v_X2_recover_t
    rw [ek]
    exact el
  have hsz := size_v (hX.cg hf (fun _ _ => rfl)) (show W < 2 ^ 31 by omega)
  rw [hv]
  refine ⟨⟨sT, sD, ?_, trivial⟩, hsz.1, hsz.2, f', rfl, hf⟩
  rw [ek]; exact sL
-- ===== live =====
theorem live_l (κ : KS) {T H E : Nat} (y1 : Int32) (hI : IK (kLk κ) T H) (hH : H < 2 ^ 31) (hE : E ≤ H) : ∀ (j n i c : Nat), i + j = E → j < n → T ≤ i →
    sl_X2_liveFromTail_15 κ (nI E) y1 n (nI c) (nI i) ∧ (l_X2_liveFromTail_15 κ (nI E) y1 n (nI c) (nI i)).1 = nI (c + cnt (lvb (kLk κ) (kIx κ)) j i) := by
  intro j
  induction j with
  | zero =>
    intro n i c hi hn hT
    obtain ⟨n, rfl⟩ := sc hn
    have hx : nI E ≤ nI i := nI_le (by omega) (by omega)
    rw [sl_X2_liveFromTail_15_s, l_X2_liveFromTail_15_s, if_pos hx]
    exact ⟨⟨fun _ => trivial, fun h => absurd hx h⟩, rfl⟩
  | succ j ih =>
    intro n i c hi hn hT
    obtain ⟨n, rfl⟩ := sc hn
    have hi31 : i < 2 ^ 31 := by omega
    have hx : ¬ nI E ≤ nI i := nI_ge (by omega) (by omega)
    obtain ⟨q, hq, k1⟩ := hI i hT (by omega)
    rw [sl_X2_liveFromTail_15_s, l_X2_liveFromTail_15_s, if_neg hx, isLive_n hi31 hq k1, nI_1 i]
    have hc : cnt (lvb (kLk κ) (kIx κ)) (j + 1) i = (if kIx κ q = nI i then 1 else 0) + cnt (lvb (kLk κ) (kIx κ)) j (i + 1) := by
      show (if lvb (kLk κ) (kIx κ) i then 1 else 0) + _ = _
      rw [lvb_q hq k1]
      simp only [decide_eq_true_eq]
    rw [hc]
    by_cases hl : kIx κ q = nI i
    · rw [if_pos hl, if_pos hl, if_neg (by decide : ¬ (1 : Int32) = 0), nI_1 c]
      have h1 := ih n (i + 1) (c + 1) (by omega) (by omega) (by omega)
      rw [show c + (1 + cnt (lvb (kLk κ) (kIx κ)) j (i + 1)) = c + 1 + cnt (lvb (kLk κ) (kIx κ)) j (i + 1) by omega]
      exact ⟨⟨fun h => absurd h hx, fun _ => ⟨isLive_s _ _, h1.1⟩⟩, h1.2⟩
    · rw [if_neg hl, if_neg hl, if_pos rfl]
      have h1 := ih n (i + 1) c (by omega) (by omega) (by omega)
      rw [show c + (0 + cnt (lvb (kLk κ) (kIx κ)) j (i + 1)) = c + cnt (lvb (kLk κ) (kIx κ)) j (i + 1) by omega]
      exact ⟨⟨fun h => absurd h hx, fun _ => ⟨isLive_s _ _, h1.1⟩⟩, h1.2⟩
/-- as many live entries as keys -/
theorem live_keys {lk ix : Nat → Int32} {T H : Nat} (hI : IK lk T H) (hX : XP lk ix T H) (hH : H < 2 ^ 31) : ∀ (j i : Nat), i + j = H → T ≤ i → cnt (lvb lk ix) j i = fb_ct (fun k => decide (nI i ≤ ix k)) 64 := by
  intro j
  induction j with
  | zero =>
    intro i hi hT
    refine (fb_ct_zero.mpr (fun k hk => ?_)).symm
    refine decide_eq_false ?_
    rcases hX k hk with e2 | ⟨p, e3, e4, e5, -⟩
    · rw [e2]; exact m1lt (by omega)
    · rw [e3]; exact nI_ge (by omega) (by omega)
  | succ j ih =>
    intro i hi hT
    obtain ⟨q, hq, k1⟩ := hI i hT (by omega)
    have h1 := ih (i + 1) (by omega) (by omega)
    show (if lvb lk ix i then 1 else 0) + cnt (lvb lk ix) j (i + 1) = _
    rw [h1, lvb_q hq k1, ← ct_one (n := 64) (decide (ix q = nI i)) hq, ← fb_ct_or]
    · refine fb_ct_cong (fun k hk => ?_)
      have e2 := hX k hk
      by_cases e : k = q
      · subst e
        rw [if_pos rfl]
        rcases e2 with e2 | ⟨p, e3, e4, e5, e6⟩
        · rw [e2, decide_eq_false (fun z : (-1 : Int32) = nI i => n_ne1 (by omega) z.symm), decide_eq_false (m1lt (by omega)), decide_eq_false (m1lt (by omega))]; rfl
        · rw [e3]
          by_cases z : p = i
          · subst z
            rw [decide_eq_true rfl, decide_eq_true (nI_le (Nat.le_refl _) (by omega))]; rfl
          · rw [decide_eq_false (fun w : nI p = nI i => z ((nI_eq (by omega) (by omega)).mp w)), Bool.false_or]
            exact decide_eq_decide.mpr (by rw [nI_leI (by omega) (by omega), nI_leI (by omega) (by omega)]; omega)
      · rw [if_neg e, Bool.false_or]
        refine decide_eq_decide.mpr ?_
        rcases e2 with e2 | ⟨p, e3, e4, e5, e6⟩
        · rw [e2]
          exact ⟨fun z => absurd z (m1lt (by omega)), fun z => absurd z (m1lt (by omega))⟩
        · rw [e3, nI_leI (by omega) (by omega), nI_leI (by omega) (by omega)]
          have hne : p ≠ i := fun z => by
            subst z
            rw [k1] at e6
            exact e ((nI_eq (by omega) (by omega)).mp e6.symm)
          omega
    · intro k hk ⟨z1, z2⟩
      by_cases e : k = q
      · subst e
        rw [if_pos rfl] at z1
        have y1 := of_decide_eq_true z1
        have y2 := of_decide_eq_true z2
        rw [y1] at y2
        exact absurd y2 (nI_ge (by omega) (by omega))
      · rw [if_neg e] at z1
        cases z1
-- ===== sums =====
def SM (d : Nat → Int32) : Nat → Int32
  | 0 => 0
  | k + 1 => SM d k + (if d k < 0 then 0 else d k)
theorem valueOf_n {κ : KS} {k p v : Nat} (hk : k < 64) (h1 : kIx κ k = nI p) (hp : p < 2 ^ 31) (h2 : kLv κ (p % 96) = nI v) : v_X2_valueOf κ (nI k) = nI v := by
  unfold v_X2_valueOf
  rw [find_n _ hk, h1, valueAt_n _ hp]
  exact h2
/-- the value of a key that is there, as it is due -/
theorem val_d {κ : KS} {d : Nat → Int32} {T H k : Nat} (h : XD (kLk κ) (kLv κ) (kIx κ) d T H) (hH : H < 2 ^ 31) (hk : k < 64) (he : ¬ kIx κ k = -1) : v_X2_valueOf κ (nI k) = d k := by
  rcases h k hk with ⟨e, -⟩ | ⟨p, v, h1, h2, h3, h4, h5, h6, h7⟩
  · exact absurd e he
  · rw [valueOf_n hk h1 (by omega) h5, h7]
theorem sum_l {κ : KS} {d : Nat → Int32} {T H : Nat} (h : XD (kLk κ) (kLv κ) (kIx κ) d T H) (hH : H < 2 ^ 31) (y1 : Int32) : ∀ (j n i : Nat), i + j = 64 → j < n → sl_X2_sum_14 κ y1 63 n (SM d i) (nI i) ∧ (l_X2_sum_14 κ y1 63 n (SM d i) (nI i)).1 = SM d 64 := by
  have e63 : (63 : Int32) = nI 63 := rfl
  have h10 : ¬ (1 : Int32) = 0 := by decide
  rw [e63]
  intro j
  induction j with
  | zero =>
    intro n i hi hn
    obtain ⟨n, rfl⟩ := sc hn
    have hx : nI 63 < nI i := nI_lt (by omega) (by omega)
    rw [sl_X2_sum_14_s, l_X2_sum_14_s, if_pos hx]
    have e : i = 64 := by omega
    subst e
    exact ⟨⟨fun _ => trivial, fun h => absurd hx h⟩, rfl⟩
  | succ j ih =>
    intro n i hi hn
    obtain ⟨n, rfl⟩ := sc hn
    have hx : ¬ nI 63 < nI i := nI_nlt (by omega) (by omega)
    have h1 := ih n (i + 1) (by omega) (by omega)
    rw [sl_X2_sum_14_s, l_X2_sum_14_s, if_neg hx, has_n _ (by omega), nI_1]
    have hs : SM d (i + 1) = SM d i + (if d i < 0 then 0 else d i) := rfl
    rcases h.due hH (show i < 64 by omega) with ⟨e1, e2⟩ | ⟨e1, v, e2, e3⟩
    · rw [e2, if_pos n_m1lt, Int32.add_zero] at hs
      rw [hs] at h1
      rw [if_pos e1, if_pos rfl]
      exact ⟨⟨fun h => absurd h hx, fun _ => ⟨⟨fun _ => trivial, fun z => absurd rfl z⟩, h1.1⟩⟩, h1.2⟩
    · have hd : ¬ d i < 0 := by rw [e3]; exact nI_pos (by omega)
      rw [if_neg hd] at hs
      rw [hs] at h1
      rw [if_neg e1, if_neg h10, val_d h hH (by omega) e1]
      exact ⟨⟨fun h => absurd h hx, fun _ => ⟨⟨fun z => absurd z h10, fun _ => ⟨valueOf_s _ _, trivial⟩⟩, h1.1⟩⟩, h1.2⟩
-- ===== next =====
theorem nx_skip {f : Nat → Int32} : ∀ (j a b : Nat), a + j = b → b ≤ 64 → (∀ i, a ≤ i → i < b → f i = -1) → nx f (64 - a) a = nx f (64 - b) b := by
  intro j
  induction j with
  | zero => intro a b e hb _; rw [show a = b by omega]
  | succ j ih =>
    intro a b e hb h
    rw [show 64 - a = (64 - (a + 1)) + 1 by omega]
    show (if f a = -1 then nx f (64 - (a + 1)) (a + 1) else nI a) = _
    rw [if_pos (h a (Nat.le_refl _) (by omega)), ih (a + 1) b (by omega) hb (fun i h1 h2 => h i (by omega) h2)]
theorem nx_at {f : Nat → Int32} {b : Nat} (hb : b < 64) (h : ¬ f b = -1) : nx f (64 - b) b = nI b := by
  rw [show 64 - b = (64 - (b + 1)) + 1 by omega]
  show (if f b = -1 then nx f (64 - (b + 1)) (b + 1) else nI b) = _
  rw [if_neg h]
-- ===== fetches =====
theorem fb_ct_orle {p q : Nat → Bool} : ∀ {n : Nat}, fb_ct (fun k => p k || q k) n ≤ fb_ct p n + fb_ct q n
  | 0 => Nat.le_refl _
  | n + 1 => by
    have h1 := fb_ct_orle (n := n) (p := p) (q := q)
    rw [fb_ct_succ, fb_ct_succ, fb_ct_succ]
    cases p n <;> cases q n <;> simp <;> omega
theorem fetk_l {κ : KS} {T H : Nat} (hX : XP (kLk κ) (kIx κ) T H) (hH : H ≤ T / 8 * 8 + 96) (h9 : H < 1000000) (y1 : Int32) {t : Nat} (ht : t < 64) : ∀ (j n i M : Nat), i + j = t + 1 → j < n → M < 4096 → sl_X2_fetches_23 κ (nI (T / 8)) y1 (nI t) n (nI M) (nI i) ∧ ∃ M', M' < 4096 ∧ (l_X2_fetches_23 κ (nI (T / 8)) y1 (nI t) n (nI M) (nI i)).1 = nI M' ∧ ∀ s, s < 12 → M'.testBit s = (M.testBit s || prs (kIx κ) (T / 8) j i s) := by
  intro j
  induction j with
  | zero =>
    intro n i M hi hn hM
    obtain ⟨n, rfl⟩ := sc hn
    have hx : nI t < nI i := nI_lt (by omega) (by omega)
    rw [sl_X2_fetches_23_s, l_X2_fetches_23_s, if_pos hx]
    exact ⟨⟨fun _ => trivial, fun h => absurd hx h⟩, M, hM, rfl, fun s _ => (Bool.or_false _).symm⟩
  | succ j ih =>
    intro n i M hi hn hM
    obtain ⟨n, rfl⟩ := sc hn
    have hx : ¬ nI t < nI i := nI_nlt (by omega) (by omega)
    rw [sl_X2_fetches_23_s, l_X2_fetches_23_s, if_neg hx, has_n _ (by omega), find_n _ (by omega), nI_1]
    rcases hX i (by omega) with d2 | ⟨p, d3, d4, d5, -⟩
    · rw [if_pos d2, if_pos rfl]
      obtain ⟨s1, M', m1, m2, m3⟩ := ih n (i + 1) M (by omega) (by omega) hM
      refine ⟨⟨fun h => absurd h hx, fun _ => s1⟩, M', m1, m2, fun s hs => ?_⟩
      rw [m3 s hs]
      show _ = (M.testBit s || (decide (¬ kIx κ i = -1 ∧ (kIx κ i).toNatClampNeg / 8 = T / 8 + s) || prs (kIx κ) (T / 8) j (i + 1) s))
      rw [decide_eq_false (fun z => z.1 d2), Bool.false_or]
    · have hne : ¬ kIx κ i = -1 := by rw [d3]; exact n_ne1 (by omega)
      have h10 : ¬ (1 : Int32) = 0 := by decide
      have hd1 : p / 8 - T / 8 < 12 := by omega
      rw [if_neg hne, if_neg h10, d3, seg_n (by omega), pk_sub (by omega), shl_n _ hd1, n_or]
      have hM1 : M ||| 2 ^ (p / 8 - T / 8) < 4096 := Nat.or_lt_two_pow (n := 12) hM (Nat.pow_lt_pow_right (by decide) hd1)
      obtain ⟨s1, M', m1, m2, m3⟩ := ih n (i + 1) (M ||| 2 ^ (p / 8 - T / 8)) (by omega) (by omega) hM1
      refine ⟨⟨fun h => absurd h hx, fun _ => s1⟩, M', m1, m2, fun s hs => ?_⟩
      rw [m3 s hs, Nat.testBit_or, Nat.testBit_two_pow]
      show _ = (M.testBit s || (decide (¬ kIx κ i = -1 ∧ (kIx κ i).toNatClampNeg / 8 = T / 8 + s) || prs (kIx κ) (T / 8) j (i + 1) s))
      rw [Bool.or_assoc, d3, nI_clamp (by omega)]
      have e : decide (p / 8 - T / 8 = s) = decide (¬ nI p = -1 ∧ p / 8 = T / 8 + s) := decide_eq_decide.mpr ⟨fun z => ⟨n_ne1 (by omega), by omega⟩, fun z => by omega⟩
      rw [e]
/-- in how many segments the keys from i on lie, j of them -/
def FT (f : Nat → Int32) (T j i : Nat) : Nat := fb_ct (fun s => prs f (T / 8) j i s) 12
theorem fet_v {κ : KS} {T H : Nat} (hX : XP (kLk κ) (kIx κ) T H) (hH : H ≤ T / 8 * 8 + 96) (h9 : H < 1000000) (hT9 : T < 1000000) (hT : kTl κ = nI T) {fr t : Nat} (hft : fr ≤ t) (ht : t < 64) : sl_X2_fetches_23 κ (v_X2_segmentOf (kTl κ)) (nI fr) (nI t) 100 0 (nI fr) ∧ v_X2_fetches κ (nI fr) (nI t) = nI (FT (kIx κ) T (t + 1 - fr) fr) := by
  obtain ⟨s1, M, m1, m2, m3⟩ := fetk_l hX hH h9 (nI fr) ht (t + 1 - fr) 100 fr 0 (by omega) (by omega) (by omega)
  rw [nI_0] at s1 m2
  unfold v_X2_fetches
  rw [hT, seg_n (by omega), m2, bc_n M m1]
  refine ⟨s1, congrArg nI ?_⟩
  exact fb_ct_cong (fun s hs => by rw [m3 s hs, Nat.zero_testBit, Bool.false_or])
theorem prs_lt {lk f : Nat → Int32} {T H : Nat} (hX : XP lk f T H) (hH : H < 1000000) {j i s : Nat} (hj : i + j ≤ 64) (h : prs f (T / 8) j i s = true) : T < H ∧ s ≤ (H - 1) / 8 - T / 8 := by
  obtain ⟨k, k1, k2, k3, k4⟩ := prs_any _ _ h
  rcases hX k (by omega) with d2 | ⟨p, d3, d4, d5, -⟩
  · exact absurd d2 k3
  · rw [d3, nI_clamp (by omega)] at k4
    omega
/-- not more segments than are in use -/
theorem FT_seg {lk f : Nat → Int32} {T H : Nat} (hX : XP lk f T H) (hH : H < 1000000) (hHT : H ≤ T / 8 * 8 + 96) {j i : Nat} (hj : i + j ≤ 64) : FT f T j i ≤ if T < H then (H - 1) / 8 - T / 8 + 1 else 0 := by
  have hz : ∀ s, (if T < H then (H - 1) / 8 - T / 8 + 1 else 0) ≤ s → prs f (T / 8) j i s = false := fun s hs => by
    cases e : prs f (T / 8) j i s with
    | false => rfl
    | true =>
      obtain ⟨h1, h2⟩ := prs_lt hX hH hj e
      rw [if_pos h1] at hs
      omega
  have h12 : (if T < H then (H - 1) / 8 - T / 8 + 1 else 0) ≤ 12 := by split <;> omega
  unfold FT
  rw [ct_more h12 (fun s h1 _ => hz s h1)]
  exact fb_ct_le _ _
/-- not more segments than keys -/
theorem FT_keys (f : Nat → Int32) (T : Nat) : ∀ (j i : Nat), FT f T j i ≤ cnt (fun k => decide (¬ f k = -1)) j i := by
  intro j
  induction j with
  | zero =>
    intro i
    show fb_ct (fun s => prs f (T / 8) 0 i s) 12 ≤ 0
    rw [show fb_ct (fun s => prs f (T / 8) 0 i s) 12 = 0 from fb_ct_zero.mpr (fun s _ => rfl)]
    exact Nat.le_refl _
  | succ j ih =>
    intro i
    have h1 := ih (i + 1)
    have h2 := fb_ct_orle (n := 12) (p := fun s => decide (¬ f i = -1 ∧ (f i).toNatClampNeg / 8 = T / 8 + s)) (q := fun s => prs f (T / 8) j (i + 1) s)
    have h3 : fb_ct (fun s => decide (¬ f i = -1 ∧ (f i).toNatClampNeg / 8 = T / 8 + s)) 12 ≤ if decide (¬ f i = -1) = true then 1 else 0 := by
      by_cases e : f i = -1
      · rw [fb_ct_zero.mpr (fun s _ => decide_eq_false (fun z => z.1 e))]
        exact Nat.zero_le _
      · rw [if_pos (decide_eq_true e)]
        have h4 : fb_ct (fun s => decide (¬ f i = -1 ∧ (f i).toNatClampNeg / 8 = T / 8 + s)) 12 ≤ fb_ct (fun s => if s = (f i).toNatClampNeg / 8 - T / 8 then true else false) 12 := fb_ct_sub (fun s _ z => by
          have z2 := (of_decide_eq_true z).2
          show (if s = (f i).toNatClampNeg / 8 - T / 8 then true else false) = true
          rw [if_pos (by omega)])
        refine Nat.le_trans h4 ?_
        by_cases c : (f i).toNatClampNeg / 8 - T / 8 < 12
        · rw [ct_one true c]
          exact Nat.le_refl _
        · rw [fb_ct_zero.mpr (fun s hs => if_neg (by omega))]
          exact Nat.zero_le _
    show fb_ct (fun s => decide (¬ f i = -1 ∧ (f i).toNatClampNeg / 8 = T / 8 + s) || prs f (T / 8) j (i + 1) s) 12 ≤ (if decide (¬ f i = -1) = true then 1 else 0) + cnt (fun k => decide (¬ f k = -1)) j (i + 1)
    exact Nat.le_trans h2 (Nat.add_le_add h3 h1)
theorem prs_in {f : Nat → Int32} {S s : Nat} : ∀ (j i k : Nat), i ≤ k → k < i + j → ¬ f k = -1 → (f k).toNatClampNeg / 8 = S + s → prs f S j i s = true := by
  intro j
  induction j with
  | zero => intro i k h1 h2; omega
  | succ j ih =>
    intro i k h1 h2 h3 h4
    show (decide (¬ f i = -1 ∧ (f i).toNatClampNeg / 8 = S + s) || prs f S j (i + 1) s) = true
    by_cases e : k = i
    · subst e
      rw [decide_eq_true ⟨h3, h4⟩]
      rfl
    · rw [ih (i + 1) k (by omega) (by omega) h3 h4, Bool.or_true]
/-- a key that is there lies in one -/
theorem FT_pos {lk f : Nat → Int32} {T H : Nat} (hX : XP lk f T H) (hH : H < 1000000) (hHT : H ≤ T / 8 * 8 + 96) {j i k : Nat} (h1 : i ≤ k) (h2 : k < i + j) (h3 : i + j ≤ 64) (h : ¬ f k = -1) : 0 < FT f T j i := by
  rcases hX k (by omega) with d2 | ⟨p, d3, d4, d5, -⟩
  · exact absurd d2 h
  · refine fb_ct_pos.mpr ⟨p / 8 - T / 8, by omega, prs_in j i k h1 h2 h ?_⟩
    rw [d3, nI_clamp (by omega)]
    omega
/-- one key that is there: one segment -/
theorem FT_one {lk f : Nat → Int32} {T H : Nat} (hX : XP lk f T H) (hH : H < 1000000) (hHT : H ≤ T / 8 * 8 + 96) {k : Nat} (hk : k < 64) (h : ¬ f k = -1) : FT f T 1 k = 1 := by
  have h1 := FT_keys f T 1 k
  have h2 := FT_pos hX hH hHT (i := k) (j := 1) (Nat.le_refl _) (by omega) (by omega) h
  have h3 := cnt_le (fun k => decide (¬ f k = -1)) 1 k
  omega
-- ===== writes, without a failure chosen =====
theorem write_1 {κ : KS} (h : kAh κ = -1) : v_X2_writeOnce κ = (1, κ) := by
  unfold v_X2_writeOnce
  rw [h, if_neg (by decide), if_pos (by decide)]
theorem sync_l {H : Nat} (hH : H < 2 ^ 31) : ∀ (j n w : Nat) (κ : KS), w + j = H → j < n → kAh κ = -1 → kWr κ = nI w →
    sl_X2_writeEntries_10 (nI H) n κ (nI w) ∧ l_X2_writeEntries_10 (nI H) n κ (nI w) = (1, kSWr κ (nI H)) := by
  have h10 : ¬ (1 : Int32) = 0 := by decide
  intro j
  induction j with
  | zero =>
    intro n w κ hi hn ha hk
    obtain ⟨n, rfl⟩ := sc hn
    have hx : nI H ≤ nI w := nI_le (by omega) (by omega)
    rw [sl_X2_writeEntries_10_s, l_X2_writeEntries_10_s, if_pos hx]
    have ew : w = H := by omega
    subst ew
    refine ⟨⟨fun _ => trivial, fun h => absurd hx h⟩, ?_⟩
    rw [← hk, kSWr_i]
  | succ j ih =>
    intro n w κ hi hn ha hk
    obtain ⟨n, rfl⟩ := sc hn
    have hx : ¬ nI H ≤ nI w := nI_ge (by omega) (by omega)
    obtain ⟨s1, r⟩ := ih n (w + 1) (kSWr κ (nI (w + 1))) (by omega) (by omega) ha rfl
    rw [sl_X2_writeEntries_10_s, l_X2_writeEntries_10_s, if_neg hx, write_1 ha, nI_1]
    have k1 : ¬ ((1, κ) : Int32 × KS).1 = 0 := h10
    rw [if_neg k1]
    refine ⟨⟨fun h => absurd h hx, fun _ => ⟨fun z => absurd z k1, fun _ => s1⟩⟩, ?_⟩
    show l_X2_writeEntries_10 (nI H) n (kSWr κ (nI (w + 1))) (nI (w + 1)) = _
    rw [r, kSWr_s]
theorem sync_v {κ : KS} {d sf : Nat → Int32} {N H T W C : Nat} (h : IN κ d sf N H T W C) : s_X2_writeEntries κ ∧ v_X2_writeEntries κ = (1, kSWr κ (nI H)) := by
  obtain ⟨⟨a1, a2, a3, a4, a5, a6⟩, ⟨c1, c2, c3, c4, c5, c6⟩, -⟩ := h
  obtain ⟨s1, r⟩ := sync_l (H := H) (by omega) (H - W) 100 W κ (by omega) (by omega) a2 a5
  unfold s_X2_writeEntries v_X2_writeEntries
  rw [a3, a5]
  exact ⟨⟨s1, trivial⟩, r⟩
-- ===== collect =====
theorem coll_l {T W C E : Nat} {d sf : Nat → Int32} (y1 : Int32) : ∀ (j n i N H : Nat) (κ : KS), IN κ d sf N H T W C → i + j = E → T ≤ i → E ≤ H → j < n → H + cnt (lvb (kLk κ) (kIx κ)) j i ≤ T / 8 * 8 + 96 → N + j ≤ 100000 → (∀ k, k < 64 → kIx κ k = -1 ∨ ∃ p, kIx κ k = nI p ∧ i ≤ p ∧ p < 2 ^ 31) →
    sl_X2_appendLiveAgain_12 (nI E) y1 n κ (nI i) ∧ ∃ κ' H', (l_X2_appendLiveAgain_12 (nI E) y1 n κ (nI i)).1 = κ' ∧ H ≤ H' ∧ IN κ' d sf (N + j) H' T W C ∧ (∀ k, k < 64 → kIx κ' k = -1 ∨ ∃ p, kIx κ' k = nI p ∧ E ≤ p ∧ p < 2 ^ 31) := by
  intro j
  induction j with
  | zero =>
    intro n i N H κ h hi hT hE hn hc hN hp
    obtain ⟨⟨a1, a2, a3, a4, a5, a6⟩, ⟨c1, c2, c3, c4, c5, c6⟩, -⟩ := id h
    obtain ⟨n, rfl⟩ := sc hn
    have hx : nI E ≤ nI i := nI_le (by omega) (by omega)
    rw [sl_X2_appendLiveAgain_12_s, l_X2_appendLiveAgain_12_s, if_pos hx]
    have e : i = E := by omega
    subst e
    exact ⟨⟨fun _ => trivial, fun z => absurd hx z⟩, κ, H, rfl, Nat.le_refl _, h, hp⟩
  | succ j ih =>
    intro n i N H κ h hi hT hE hn hc hN hp
    obtain ⟨⟨a1, a2, a3, a4, a5, a6⟩, ⟨c1, c2, c3, c4, c5, c6⟩, hI, hC, hX, -⟩ := id h
    obtain ⟨n, rfl⟩ := sc hn
    have hi31 : i < 2 ^ 31 := by omega
    have hx : ¬ nI E ≤ nI i := nI_ge (by omega) (by omega)
    have h10 : ¬ (1 : Int32) = 0 := by decide
    obtain ⟨q, hq, k1⟩ := hI i hT (by omega)
    have hcn : cnt (lvb (kLk κ) (kIx κ)) (j + 1) i = (if kIx κ q = nI i then 1 else 0) + cnt (lvb (kLk κ) (kIx κ)) j (i + 1) := by
      show (if lvb (kLk κ) (kIx κ) i then 1 else 0) + _ = _
      rw [lvb_q hq k1]
      simp only [decide_eq_true_eq]
    rw [hcn] at hc
    rw [sl_X2_appendLiveAgain_12_s, l_X2_appendLiveAgain_12_s, if_neg hx, isLive_n hi31 hq k1, nI_1 i]
    have huniq : ∀ k, k < 64 → kIx κ k = nI i → k = q := fun k hk z => by
      rcases hX k hk with ⟨d2, -⟩ | ⟨p, v, d3, d4, d5, d6, -⟩
      · rw [z] at d2; exact absurd d2 (n_ne1 hi31)
      · rw [z] at d3
        have e : i = p := (nI_eq (by omega) (by omega)).mp d3
        subst e
        rw [k1] at d6
        exact ((nI_eq (by omega) (by omega)).mp d6).symm
    by_cases hl : kIx κ q = nI i
    · obtain ⟨v, hv9, hv, hdq⟩ : ∃ v, v < 10000 ∧ kLv κ (i % 96) = nI v ∧ d q = nI v := by
        rcases hX q hq with ⟨d2, -⟩ | ⟨p, v, d3, d4, d5, d6, d7, d8, d9⟩
        · rw [hl] at d2; exact absurd d2 (n_ne1 hi31)
        · rw [hl] at d3
          have e : i = p := (nI_eq (by omega) (by omega)).mp d3
          subst e
          exact ⟨v, d8, d7, d9⟩
      have hv1 : ¬ nI v = -1 := n_ne1 (by omega)
      rw [if_pos hl] at hc
      have hR0 := h.app (by omega) (by omega) hq (v := nI v) (Or.inr ⟨v, hv9, rfl⟩)
      have hR : IN (kapp κ q (nI v) H) d sf (N + 1) (H + 1) T W C := hR0.cgd (fun k _ => by
        by_cases e : k = q
        · subst e; rw [pk_us, hdq]
        · rw [pk_un e])
      have eK : (v_X2_append κ (v_X1_keyAt (kLk κ, kLv κ) (nI i)) (v_X1_valueAt (kLk κ, kLv κ) (nI i))).2 = kapp κ q (nI v) H := by
        rw [keyAt_n _ hi31, valueAt_n _ hi31]
        show (v_X2_append κ (kLk κ (i % 96)) (kLv κ (i % 96))).2 = _
        rw [k1, hv, append_n (by omega) hq a3]
      rw [if_pos hl, if_neg h10, eK]
      have hcc : cnt (lvb (kLk (kapp κ q (nI v) H)) (kIx (kapp κ q (nI v) H))) j (i + 1) = cnt (lvb (kLk κ) (kIx κ)) j (i + 1) := cnt_cong j (i + 1) (fun p p1 p2 => by
        obtain ⟨r, hr, r1⟩ := hI p (by omega) (by omega)
        have hne : p % 96 ≠ H % 96 := by omega
        have r2 : kLk (kapp κ q (nI v) H) (p % 96) = nI r := by
          show upd (kLk κ) (H % 96) (nI q) (p % 96) = nI r
          rw [pk_un hne]; exact r1
        rw [lvb_q hr r2, lvb_q hr r1]
        refine decide_eq_decide.mpr ?_
        show upd (kIx κ) q (if nI v = -1 then -1 else nI H) r = nI p ↔ _
        by_cases e : r = q
        · subst e
          rw [pk_us, if_neg hv1, hl, nI_eq (by omega) (by omega), nI_eq (by omega) (by omega)]
          omega
        · rw [pk_un e])
      obtain ⟨s1, κ', H', l1, l3, l4, l5⟩ := ih n (i + 1) (N + 1) (H + 1) _ hR (by omega) (by omega) (by omega) (by omega) (by rw [hcc]; omega) (by omega) (fun k hk => by
        show upd (kIx κ) q (if nI v = -1 then -1 else nI H) k = -1 ∨ ∃ p, upd (kIx κ) q (if nI v = -1 then -1 else nI H) k = nI p ∧ i + 1 ≤ p ∧ p < 2 ^ 31
        by_cases e : k = q
        · subst e
          rw [pk_us, if_neg hv1]
          exact Or.inr ⟨H, rfl, by omega, by omega⟩
        · rw [pk_un e]
          rcases hp k hk with z | ⟨p, z1, z2, z3⟩
          · exact Or.inl z
          · refine Or.inr ⟨p, z1, ?_, z3⟩
            by_cases w : p = i
            · subst w; exact absurd (huniq k hk z1) e
            · omega)
      rw [show N + 1 + j = N + (j + 1) by omega] at l4
      exact ⟨⟨fun z => absurd z hx, fun _ => ⟨isLive_s _ _, ⟨fun z => absurd z h10, fun _ => ⟨keyAt_s _ _, valueAt_s _ _, append_s _ _ _, trivial⟩⟩, s1⟩⟩, κ', H', l1, by omega, l4, l5⟩
    · rw [if_neg hl] at hc
      rw [if_neg hl, if_pos rfl]
      obtain ⟨s1, κ', H', l1, l3, l4, l5⟩ := ih n (i + 1) N H κ h (by omega) (by omega) hE (by omega) (by omega) (by omega) (fun k hk => by
        rcases hp k hk with z | ⟨p, z1, z2, z3⟩
        · exact Or.inl z
        · refine Or.inr ⟨p, z1, ?_, z3⟩
          by_cases w : p = i
          · subst w
            have e := huniq k hk z1
            subst e
            exact absurd z1 hl
          · omega)
      exact ⟨⟨fun z => absurd z hx, fun _ => ⟨isLive_s _ _, ⟨fun _ => trivial, fun z => absurd rfl z⟩, s1⟩⟩, κ', H', l1, l3, l4.mono (by omega) hN, l5⟩

-- ===== what the law's `has` reads, under the invariant =====
theorem isUp_v {κ : KS} {d sf : Nat → Int32} {N H T W C : Nat} (h : IN κ d sf N H T W C) : v_X2_isUp κ = 1 := h.1.1
theorem isUp_b {κ : KS} {d sf : Nat → Int32} {N H T W C : Nat} (h : IN κ d sf N H T W C) : bz (kUp κ) := Or.inr h.1.1
theorem isUp_d {κ : KS} {sf : Nat → Int32} {N T W C : Nat} (h : ID κ sf N T W C) : v_X2_isUp κ = 0 := h.1.1
theorem isUp_e {κ : KS} {sf : Nat → Int32} {N T W C : Nat} (h : ID κ sf N T W C) : bz (kUp κ) := Or.inl h.1.1
theorem head_v {κ : KS} {d sf : Nat → Int32} {N H T W C : Nat} (h : IN κ d sf N H T W C) : v_X2_head κ = nI H := h.1.2.2.1
theorem tail_v {κ : KS} {d sf : Nat → Int32} {N H T W C : Nat} (h : IN κ d sf N H T W C) : v_X2_tail κ = nI T := h.1.2.2.2.1
theorem writ_v {κ : KS} {d sf : Nat → Int32} {N H T W C : Nat} (h : IN κ d sf N H T W C) : v_X2_written κ = nI W := h.1.2.2.2.2.1
theorem cpat_v {κ : KS} {d sf : Nat → Int32} {N H T W C : Nat} (h : IN κ d sf N H T W C) : v_X2_checkpointAt κ = nI C := h.1.2.2.2.2.2
/-- the last key below k that is due -/
def lsK (d : Nat → Int32) : Nat → Int32
  | 0 => -1
  | k + 1 => if 0 ≤ d k then nI k else lsK d k
theorem LS_s (d : Nat → Int32) (k : Nat) : lsK d (k + 1) = if 0 ≤ d k then nI k else lsK d k := rfl
theorem LS_a (d : Nat → Int32) : ∀ k : Nat, ∃ a, a ≤ k ∧ lsK d k + 1 = nI a ∧ ∀ i, a ≤ i → i < k → ¬ 0 ≤ d i := by
  intro k
  induction k with
  | zero => exact ⟨0, Nat.le_refl _, (show (-1 : Int32) + 1 = nI 0 by decide), fun i _ h => absurd h (Nat.not_lt_zero i)⟩
  | succ k ih =>
    obtain ⟨a, h1, h2, h3⟩ := ih
    rw [LS_s]
    by_cases c : 0 ≤ d k
    · rw [if_pos c]
      exact ⟨k + 1, Nat.le_refl _, nI_1 k, fun i x y => by omega⟩
    · rw [if_neg c]
      refine ⟨a, by omega, h2, fun i x y => ?_⟩
      by_cases e : i = k
      · subst e; exact c
      · exact h3 i x (by omega)
theorem due_no {lk lv ix d : Nat → Int32} {T H : Nat} (h : XD lk lv ix d T H) (hH : H < 2 ^ 31) {k : Nat} (hk : k < 64) (hd : ¬ 0 ≤ d k) : ix k = -1 := by
  rcases h.due hH hk with ⟨e, -⟩ | ⟨-, v, hv, e⟩
  · exact e
  · rw [e] at hd
    exact absurd (nI_pos' (by omega)) hd
theorem next_at {κ : KS} {d sf : Nat → Int32} {N H T W C : Nat} (h : IN κ d sf N H T W C) {k : Nat} (hk : k < 64) (hne : ¬ kIx κ k = -1) : s_X2_next κ (lsK d k + 1) ∧ x_X2_next κ (lsK d k + 1) = 0 ∧ v_X2_next κ (lsK d k + 1) = nI k := by
  obtain ⟨⟨a1, a2, a3, a4, a5, a6⟩, ⟨c1, c2, c3, c4, c5, c6⟩, hI, hC, hX, -⟩ := id h
  obtain ⟨a, b1, b2, b3⟩ := LS_a d k
  have h1 := next_v h (q := a) (by omega)
  rw [nx_skip (k - a) a k (by omega) (by omega) (fun i x y => due_no hX (by omega) (by omega) (b3 i x y)), nx_at hk hne] at h1
  rw [b2]
  exact h1
theorem next_end {κ : KS} {d sf : Nat → Int32} {N H T W C : Nat} (h : IN κ d sf N H T W C) (hne : ¬ lsK d 64 = 63) : s_X2_next κ (lsK d 64 + 1) ∧ x_X2_next κ (lsK d 64 + 1) = 0 ∧ v_X2_next κ (lsK d 64 + 1) = -1 := by
  obtain ⟨⟨a1, a2, a3, a4, a5, a6⟩, ⟨c1, c2, c3, c4, c5, c6⟩, hI, hC, hX, -⟩ := id h
  obtain ⟨a, b1, b2, b3⟩ := LS_a d 64
  have b4 : ¬ a = 64 := fun e => hne (by
    have e1 : lsK d 64 = nI a - 1 := by rw [← b2, Int32.add_sub_cancel]
    rw [e1, e]
    decide)
  have h1 := next_v h (q := a) (by omega)
  rw [nx_skip (64 - a) a 64 (by omega) (by omega) (fun i x y => due_no hX (by omega) (by omega) (b3 i x y))] at h1
  rw [b2]
  exact h1
theorem fet_1 {κ : KS} {d sf : Nat → Int32} {N H T W C : Nat} (h : IN κ d sf N H T W C) {k : Nat} (hk : k < 64) (hne : ¬ kIx κ k = -1) : s_X2_fetches κ (nI k) (nI k) ∧ x_X2_fetches κ (nI k) (nI k) = 0 ∧ v_X2_fetches κ (nI k) (nI k) = 1 := by
  obtain ⟨⟨a1, a2, a3, a4, a5, a6⟩, ⟨c1, c2, c3, c4, c5, c6⟩, hI, hC, hX, -⟩ := id h
  have h1 := fetches_v h (fr := k) (t := k) (Nat.le_refl _) hk
  rw [show k + 1 - k = 1 by omega, FT_one hX.xp (by omega) c4 hk hne] at h1
  exact h1
theorem fet_64 {κ : KS} {d sf : Nat → Int32} {N H T W C : Nat} (h : IN κ d sf N H T W C) : s_X2_fetches κ 0 63 ∧ x_X2_fetches κ 0 63 = 0 ∧ v_X2_fetches κ 0 63 = nI (FT (kIx κ) T 64 0) := fetches_v h (fr := 0) (t := 63) (by omega) (by omega)
theorem SM_m {d : Nat → Int32} {k : Nat} (h : d k < 0) : SM d k + 0 = SM d (k + 1) := by
  show _ = SM d k + (if d k < 0 then 0 else d k)
  rw [if_pos h]
theorem SM_p {d : Nat → Int32} {k : Nat} (h : ¬ d k < 0) : SM d k + d k = SM d (k + 1) := by
  show _ = SM d k + (if d k < 0 then 0 else d k)
  rw [if_neg h]
theorem MN_m {d : Nat → Int32} {k : Nat} (h : ¬ 0 ≤ d k) : nI (MN d k) + 0 = nI (MN d (k + 1)) := by
  rw [MN_s, if_neg h, Int32.add_zero]
  rfl
theorem MN_p {d : Nat → Int32} {k : Nat} (h : 0 ≤ d k) : nI (MN d k) + 1 = nI (MN d (k + 1)) := by
  rw [MN_s, if_pos h, nI_1]
theorem LS_m {d : Nat → Int32} {k : Nat} (h : ¬ 0 ≤ d k) : lsK d k = lsK d (k + 1) := by
  rw [LS_s, if_neg h]
theorem LS_p {d : Nat → Int32} {k : Nat} (h : 0 ≤ d k) : nI k = lsK d (k + 1) := by
  rw [LS_s, if_pos h]
/-- what is due is none, or a value, and the index goes with it -/
theorem IN.two {κ : KS} {d sf : Nat → Int32} {N H T W C : Nat} (h : IN κ d sf N H T W C) {k : Nat} (hk : k < 64) : (kIx κ k = -1 ∧ d k = -1) ∨ (∃ p v, kIx κ k = nI p ∧ T ≤ p ∧ p < H ∧ H ≤ 100000 ∧ v < 10000 ∧ d k = nI v) := by
  obtain ⟨-, ⟨c1, c2, c3, c4, c5, c6⟩, hI, hC, hX, -⟩ := id h
  rcases hX k hk with e | ⟨p, v, f1, f2, f3, f4, f5, f6, f7⟩
  · exact Or.inl e
  · exact Or.inr ⟨p, v, f1, f2, f3, by omega, f6, f7⟩
theorem rem_8 {T f : Nat} (h : (T + f) % 8 = 0) (h9 : T + f < 2 ^ 31) : nI T + nI f - (nI T + nI f) / 8 * 8 = 0 := by
  rw [nI_add, rem8 h9, h, nI_0]
theorem not_gt12 {s : Nat} (h : s ≤ 12) : ¬ (12 : Int32) < nI s := fun e => absurd e (show ¬ nI 12 < nI s from nI_nlt h (by decide))
theorem not_lt1 {f : Nat} (h : 1 ≤ f) (h9 : f < 2 ^ 31) : ¬ nI f < 1 := fun e => absurd e (show ¬ nI f < nI 1 from nI_nlt h h9)
theorem not_gt8 {f : Nat} (h : f ≤ 8) : ¬ (8 : Int32) < nI f := fun e => absurd e (show ¬ nI 8 < nI f from nI_nlt h (by decide))

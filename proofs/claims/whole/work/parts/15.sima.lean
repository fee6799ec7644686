-- ===== calls, side by side =====
theorem g0 {t : MS} : ((0, t) : Int32 × MS).1 = 0 := rfl
theorem n10 : ¬ (1 : Int32) = 0 := by decide
theorem g1 {t : MS} : ¬ ((1, t) : Int32 × MS).1 = 0 := n10
theorem goes1 {μ : MS} {a b : Int32} (h : a = 0) : v_X3_goes μ a b = (0, mSTh μ 1) := by
  unfold v_X3_goes
  rw [if_pos h, if_neg n10]
theorem goes2 {μ : MS} {a b : Int32} (h : ¬ a = 0) (h2 : b = 0) : v_X3_goes μ a b = (0, mSTh μ 2) := by
  unfold v_X3_goes
  rw [if_neg h, if_pos h2, if_neg (by decide : ¬ (2 : Int32) = 0)]
theorem goes0 {μ : MS} {a b : Int32} (h : ¬ a = 0) (h2 : ¬ b = 0) : v_X3_goes μ a b = (1, mSTh μ 0) := by
  unfold v_X3_goes
  rw [if_neg h, if_neg h2, if_pos rfl]
/-- a call's answers: no throw, the same answer and states side by side; a throw, and the class as it was -/
def SIM (N : Nat) (sK sM : Prop) (x : Nat) (code rK rM : Int32) (κ κ' : KS) (μ' : MS) : Prop := sK ∧ sM ∧ mTh μ' = code ∧ (x = 0 → rK = rM ∧ RQ κ' μ' (N + 96)) ∧ (¬ x = 0 → RQ κ μ' (N + 96))
theorem up_no {κ : KS} (h : kUp κ = 0) : x_X2_needUp κ = 2 := if_pos h
theorem up_ok {κ : KS} (h : kUp κ = 1) : x_X2_needUp κ = 0 := if_neg (by rw [h]; exact n10)
theorem RU.th {κ : KS} {μ : MS} {N H T W C : Nat} (h : RU κ μ N H T W C) (t : Int32) : RU κ (mSTh μ t) N H T W C := h
theorem RD.th {κ : KS} {μ : MS} {N H T W C : Nat} (h : RD κ μ N H T W C) (t : Int32) : RD κ (mSTh μ t) N H T W C := h
/-- up or down -/
theorem RQ.cases {κ : KS} {μ : MS} {N : Nat} (h : RQ κ μ N) : (kUp κ = 0 ∧ x_X2_needUp κ = 2 ∧ mDn μ = 1 ∧ (∃ H T W C, RD κ μ N H T W C)) ∨ (kUp κ = 1 ∧ x_X2_needUp κ = 0 ∧ mDn μ = 0 ∧ ∃ H T W C, RU κ μ N H T W C) := by
  obtain ⟨H, T, W, C, h | h⟩ := h
  · exact Or.inr ⟨h.2.1, up_ok h.2.1, h.2.2.1, H, T, W, C, h⟩
  · exact Or.inl ⟨h.2.1, up_no h.2.1, h.2.2.1, H, T, W, C, h⟩
theorem RU.q {κ : KS} {μ : MS} {N N' H T W C : Nat} (h : RU κ μ N H T W C) (hN : N ≤ N') (h9 : N' ≤ 100000) : RQ κ μ N' := ⟨H, T, W, C, Or.inl (h.mono hN h9)⟩
theorem RD.q {κ : KS} {μ : MS} {N N' H T W C : Nat} (h : RD κ μ N H T W C) (hN : N ≤ N') (h9 : N' ≤ 100000) : RQ κ μ N' := ⟨H, T, W, C, Or.inr (h.mono hN h9)⟩
theorem dn1 {μ : MS} (h : mDn μ = 1) : (if mDn μ = 0 then 1 else 0 : Int32) = 0 := if_neg (by rw [h]; exact n10)
theorem dn0 {μ : MS} (h : mDn μ = 0) : ¬ (if mDn μ = 0 then 1 else 0 : Int32) = 0 := by rw [if_pos h]; exact n10
theorem isKey0 {p : Int32} (h : ¬ x_X2_needKey p = 0) : v_X3_isKey p = 0 := by rw [isKey_n, if_neg h]
theorem isKey1 {p : Int32} (h : x_X2_needKey p = 0) : ¬ v_X3_isKey p = 0 := by rw [isKey_n, if_pos h]; exact n10
-- ranges
theorem range_ok {a b : Int32} (h : x_X2_needRange a b = 0) : ∃ i j, i ≤ j ∧ j < 64 ∧ a = nI i ∧ b = nI j := by
  unfold x_X2_needRange at h
  obtain ⟨h1, h⟩ := x_of h
  obtain ⟨h2, h⟩ := x_of h
  obtain ⟨i, hi, rfl⟩ := key_ok h1
  obtain ⟨j, hj, rfl⟩ := key_ok h2
  by_cases c : nI i ≤ nI j
  · exact ⟨i, j, (nI_leI (by omega) (by omega)).mp c, hj, rfl, rfl⟩
  · rw [if_neg c] at h; cases h
theorem range_n {i j : Nat} (hij : i ≤ j) (hj : j < 64) : x_X2_needRange (nI i) (nI j) = 0 := by
  unfold x_X2_needRange
  rw [if_pos (key_n (by omega)), if_pos (key_n hj), if_pos (nI_le hij (by omega))]
theorem range_no {a b : Int32} (h : ¬ x_X2_needRange a b = 0) : x_X2_needRange a b = 1 := by
  unfold x_X2_needRange at h ⊢
  by_cases h1 : x_X2_needKey a = 0
  · rw [if_pos h1] at h ⊢
    by_cases h2 : x_X2_needKey b = 0
    · rw [if_pos h2] at h ⊢
      by_cases c : a ≤ b
      · rw [if_pos c] at h; exact absurd rfl h
      · rw [if_neg c]
    · rw [if_neg h2]; exact key_no h2
  · rw [if_neg h1]; exact key_no h1
theorem isRange1 {a b : Int32} (h : x_X2_needRange a b = 0) : ¬ v_X3_isRange a b = 0 := by
  obtain ⟨i, j, hij, hj, rfl, rfl⟩ := range_ok h
  unfold v_X3_isRange
  rw [if_neg (nI_pos (by omega)), if_neg (nI_nlt hij (by omega)), if_neg (fun e => absurd ((le64 (by omega)).mp e) (by omega))]
  exact n10
theorem isRange0 {a b : Int32} (h : ¬ x_X2_needRange a b = 0) : v_X3_isRange a b = 0 := by
  unfold v_X3_isRange
  by_cases h1 : a < 0
  · rw [if_pos h1]
  · rw [if_neg h1]
    by_cases h2 : b < a
    · rw [if_pos h2]
    · rw [if_neg h2]
      by_cases h3 : (64 : Int32) ≤ b
      · rw [if_pos h3]
      · exfalso
        obtain ⟨i, hi, rfl⟩ := nI_of h1
        have hb : ¬ b < 0 := fun z => h2 (by
          have e1 := Int32.lt_iff_toInt_lt.mp z
          refine Int32.lt_iff_toInt_lt.mpr ?_
          have z0 : (0 : Int32).toInt = 0 := by decide
          rw [z0] at e1
          rw [nI_toInt hi]
          omega)
        obtain ⟨j, hj, rfl⟩ := nI_of hb
        have e1 : ¬ 64 ≤ j := fun z => h3 ((le64 hj).mpr z)
        have e2 : ¬ j < i := fun z => h2 (nI_lt z (by omega))
        exact h (range_n (by omega) (by omega))
-- ===== room =====
theorem room_n {κ : KS} {H T : Nat} (c : Nat) (hT : T < 1000000) (hc : c < 1000000) (hH : H ≤ T / 8 * 8 + 96) (h1 : kHd κ = nI H) (h2 : kTl κ = nI T) : x_X2_needRoom κ (nI c) = if H + c ≤ T / 8 * 8 + 96 then 0 else 2 := by
  unfold x_X2_needRoom
  rw [h1, h2, seg_n (by omega)]
  have e1 : nI (T / 8) * 8 = nI (T / 8 * 8) := pk_mul (T / 8) 8
  have e2 : nI (T / 8 * 8) + 96 = nI (T / 8 * 8 + 96) := nI_add (T / 8 * 8) 96
  rw [e1, e2, pk_sub hH]
  by_cases c1 : H + c ≤ T / 8 * 8 + 96
  · rw [if_pos c1, if_pos (nI_le (by omega) (by omega))]
  · rw [if_neg c1, if_neg (nI_ge (by omega) (by omega))]
theorem can_n {μ : MS} {H T : Nat} (c : Nat) (hT : T < 1000000) (hc : c < 1000000) (hTH : T ≤ H) (hH : H ≤ T / 8 * 8 + 96) (h1 : mHd μ = nI H) (h2 : mTl μ = nI T) : v_X3_canAppend μ (nI c) = if H + c ≤ T / 8 * 8 + 96 then 1 else 0 := by
  unfold v_X3_canAppend v_X3_segmentsOf
  rw [h1, h2, nI_add]
  by_cases e : T = H + c
  · rw [if_pos (congrArg nI e), if_neg (by decide : ¬ (12 : Int32) < 0), if_pos (by omega)]
  · rw [if_neg (fun z => e ((nI_eq (by omega) (by omega)).mp z))]
    obtain ⟨d, hd⟩ : ∃ d, H + c = d + 1 := ⟨H + c - 1, by omega⟩
    rw [hd, nI_pred, div8 (by omega), div8 (by omega), pk_sub (by omega), nI_1]
    have e12 : (12 : Int32) = nI 12 := rfl
    rw [e12]
    by_cases c1 : d + 1 ≤ T / 8 * 8 + 96
    · rw [if_pos c1, if_neg (nI_nlt (by omega) (by omega))]
    · rw [if_neg c1, if_pos (nI_lt (by omega) (by omega))]
-- ===== the reads =====
theorem sim_get {κ : KS} {μ : MS} {N : Nat} (h : RQ κ μ N) (h9 : N + 96 ≤ 100000) (p : Int32) : SIM N (s_X2_get κ p) (s_X3_get μ p) (x_X2_get κ p) (nI (x_X2_get κ p)) (v_X2_get κ p) (v_X3_get μ p).1 κ κ (v_X3_get μ p).2 := by
  have hq := (h.mono (show N ≤ N + 96 by omega) h9)
  unfold SIM s_X2_get s_X3_get x_X2_get v_X3_get v_X2_get
  by_cases hk : x_X2_needKey p = 0
  · rcases h.cases with ⟨hu, hn, hd, -⟩ | ⟨hu, hn, hd, H, T, W, C, hR⟩
    · rw [goes2 (isKey1 hk) (dn1 hd), if_pos g0, if_pos hk, hn, if_neg (by decide)]
      exact ⟨fun _ z => absurd z (by decide), ⟨fun _ => trivial, fun z => absurd g0 z⟩, rfl, fun z => absurd z (by decide), fun _ => hq.th _⟩
    · rw [goes0 (isKey1 hk) (dn0 hd), if_neg g1, if_pos hk, hn, if_pos rfl]
      obtain ⟨k, hk64, rfl⟩ := key_ok hk
      obtain ⟨sv, hv⟩ := valueOf_eq (hR.th 0) hk64
      refine ⟨fun _ _ => ⟨fun _ => trivial, fun _ => ⟨valueOf_s _ _, trivial⟩⟩, ⟨fun z => absurd z g1, fun _ => ⟨sv, trivial⟩⟩, rfl, fun _ => ⟨?_, hq.th 0⟩, fun z => absurd rfl z⟩
      rw [has_n _ hk64]
      rcases hv with ⟨e1, -, e3⟩ | ⟨e1, -, e3⟩
      · rw [if_pos e1, if_pos rfl, e3]
      · rw [if_neg e1, if_neg n10, e3]
  · rw [goes1 (isKey0 hk), if_pos g0, if_neg hk]
    exact ⟨fun z => absurd z hk, ⟨fun _ => trivial, fun z => absurd g0 z⟩, by rw [key_no hk]; rfl, fun z => absurd z hk, fun _ => hq.th _⟩
theorem RU.ixpos {κ : KS} {μ : MS} {N H T W C : Nat} (h : RU κ μ N H T W C) : ∀ k, k < 64 → kIx κ k = mIx μ k ∧ (kIx κ k = -1 ∨ 0 ≤ kIx κ k) := fun k hk => by
  obtain ⟨⟨-, -, ⟨c1, c2, c3, c4, c5, c6⟩, -, -⟩, -, -, -, hX⟩ := h
  obtain ⟨d1, d2⟩ := hX k hk
  refine ⟨d1, ?_⟩
  rcases d2 with d2 | ⟨p, d3, -, d5, -⟩
  · exact Or.inl d2
  · rw [d3]; exact Or.inr (nI_pos' (by omega))
theorem sim_next {κ : KS} {μ : MS} {N : Nat} (h : RQ κ μ N) (h9 : N + 96 ≤ 100000) (p : Int32) : SIM N (s_X2_next κ p) (s_X3_next μ p) (x_X2_next κ p) (nI (x_X2_next κ p)) (v_X2_next κ p) (v_X3_next μ p).1 κ κ (v_X3_next μ p).2 := by
  have hq := (h.mono (show N ≤ N + 96 by omega) h9)
  unfold SIM s_X2_next s_X3_next x_X2_next v_X3_next v_X2_next
  by_cases hk : x_X2_needKey p = 0
  · rcases h.cases with ⟨hu, hn, hd, -⟩ | ⟨hu, hn, hd, H, T, W, C, hR⟩
    · rw [goes2 (isKey1 hk) (dn1 hd), if_pos g0, if_pos hk, hn, if_neg (by decide)]
      exact ⟨fun _ z => absurd z (by decide), ⟨fun _ => trivial, fun z => absurd g0 z⟩, rfl, fun z => absurd z (by decide), fun _ => hq.th _⟩
    · rw [goes0 (isKey1 hk) (dn0 hd), if_neg g1, if_pos hk, hn, if_pos rfl]
      obtain ⟨k, hk64, rfl⟩ := key_ok hk
      obtain ⟨s1, v1⟩ := nextk_l κ (nI k) (64 - k) 100 k (by omega) (by omega)
      obtain ⟨s2, v2⟩ := nextm_l (mSTh μ 0) (hR.th 0).ixpos hk64 (64 - k) 100 (by omega) (by omega)
      have e1 : k + (64 - k) = 64 := by omega
      have e2 : nI 64 + (-1) = 63 := by decide
      rw [e1, e2] at s2 v2
      refine ⟨fun _ _ => ⟨s1, trivial⟩, ⟨fun z => absurd z g1, fun _ => ⟨s2, trivial⟩⟩, rfl, fun _ => ⟨?_, hq.th 0⟩, fun z => absurd rfl z⟩
      rw [v1]
      exact v2.symm
  · rw [goes1 (isKey0 hk), if_pos g0, if_neg hk]
    exact ⟨fun z => absurd z hk, ⟨fun _ => trivial, fun z => absurd g0 z⟩, by rw [key_no hk]; rfl, fun z => absurd z hk, fun _ => hq.th _⟩
theorem sim_sum {κ : KS} {μ : MS} {N : Nat} (h : RQ κ μ N) (h9 : N + 96 ≤ 100000) (p p2 : Int32) : SIM N (s_X2_sum κ p p2) (s_X3_sum μ p p2) (x_X2_sum κ p p2) (nI (x_X2_sum κ p p2)) (v_X2_sum κ p p2) (v_X3_sum μ p p2).1 κ κ (v_X3_sum μ p p2).2 := by
  have hq := (h.mono (show N ≤ N + 96 by omega) h9)
  unfold SIM s_X2_sum s_X3_sum x_X2_sum v_X3_sum v_X2_sum
  by_cases hk : x_X2_needRange p p2 = 0
  · rcases h.cases with ⟨hu, hn, hd, -⟩ | ⟨hu, hn, hd, H, T, W, C, hR⟩
    · rw [goes2 (isRange1 hk) (dn1 hd), if_pos g0, if_pos hk, hn, if_neg (by decide)]
      exact ⟨fun _ z => absurd z (by decide), ⟨fun _ => trivial, fun z => absurd g0 z⟩, rfl, fun z => absurd z (by decide), fun _ => hq.th _⟩
    · rw [goes0 (isRange1 hk) (dn0 hd), if_neg g1, if_pos hk, hn, if_pos rfl]
      obtain ⟨i, j, hij, hj, rfl, rfl⟩ := range_ok hk
      obtain ⟨s1, s2, v⟩ := sum_l (hR.th 0) (nI i) hj (j + 1 - i) 100 i 0 (by omega) (by omega)
      exact ⟨fun _ _ => ⟨s1, trivial⟩, ⟨fun z => absurd z g1, fun _ => ⟨s2, trivial⟩⟩, rfl, fun _ => ⟨v, hq.th 0⟩, fun z => absurd rfl z⟩
  · rw [goes1 (isRange0 hk), if_pos g0, if_neg hk]
    exact ⟨fun z => absurd z hk, ⟨fun _ => trivial, fun z => absurd g0 z⟩, by rw [range_no hk]; rfl, fun z => absurd z hk, fun _ => hq.th _⟩
theorem sim_fetches {κ : KS} {μ : MS} {N : Nat} (h : RQ κ μ N) (h9 : N + 96 ≤ 100000) (p p2 : Int32) : SIM N (s_X2_fetches κ p p2) (s_X3_fetches μ p p2) (x_X2_fetches κ p p2) (nI (x_X2_fetches κ p p2)) (v_X2_fetches κ p p2) (v_X3_fetches μ p p2).1 κ κ (v_X3_fetches μ p p2).2 := by
  have hq := (h.mono (show N ≤ N + 96 by omega) h9)
  unfold SIM s_X2_fetches s_X3_fetches x_X2_fetches v_X3_fetches v_X2_fetches
  by_cases hk : x_X2_needRange p p2 = 0
  · rcases h.cases with ⟨hu, hn, hd, -⟩ | ⟨hu, hn, hd, H, T, W, C, hR⟩
    · rw [goes2 (isRange1 hk) (dn1 hd), if_pos g0, if_pos hk, hn, if_neg (by decide)]
      exact ⟨fun _ z => absurd z (by decide), ⟨fun _ => trivial, fun z => absurd g0 z⟩, rfl, fun z => absurd z (by decide), fun _ => hq.th _⟩
    · rw [goes0 (isRange1 hk) (dn0 hd), if_neg g1, if_pos hk, hn, if_pos rfl]
      obtain ⟨i, j, hij, hj, rfl, rfl⟩ := range_ok hk
      obtain ⟨s1, s2, v⟩ := fet_eq (hR.th 0) hij hj
      exact ⟨fun _ _ => ⟨s1, trivial⟩, ⟨fun z => absurd z g1, fun _ => ⟨s2, trivial⟩⟩, rfl, fun _ => ⟨v, hq.th 0⟩, fun z => absurd rfl z⟩
  · rw [goes1 (isRange0 hk), if_pos g0, if_neg hk]
    exact ⟨fun z => absurd z hk, ⟨fun _ => trivial, fun z => absurd g0 z⟩, by rw [range_no hk]; rfl, fun z => absurd z hk, fun _ => hq.th _⟩
theorem sim_positionOf {κ : KS} {μ : MS} {N : Nat} (h : RQ κ μ N) (h9 : N + 96 ≤ 100000) (p : Int32) : SIM N True (s_X3_positionOf μ p) (x_X2_positionOf κ p) (nI (x_X2_positionOf κ p)) (v_X2_positionOf κ p) (v_X3_positionOf μ p).1 κ κ (v_X3_positionOf μ p).2 := by
  have hq := (h.mono (show N ≤ N + 96 by omega) h9)
  unfold SIM s_X3_positionOf x_X2_positionOf v_X3_positionOf v_X2_positionOf
  by_cases hk : x_X2_needKey p = 0
  · rcases h.cases with ⟨hu, hn, hd, -⟩ | ⟨hu, hn, hd, H, T, W, C, hR⟩
    · rw [goes2 (isKey1 hk) (dn1 hd), if_pos g0, if_pos hk, hn, if_neg (by decide)]
      exact ⟨trivial, ⟨fun _ => trivial, fun z => absurd g0 z⟩, rfl, fun z => absurd z (by decide), fun _ => hq.th _⟩
    · rw [goes0 (isKey1 hk) (dn0 hd), if_neg g1, if_pos hk, hn, if_pos rfl]
      obtain ⟨k, hk64, rfl⟩ := key_ok hk
      refine ⟨trivial, ⟨fun z => absurd z g1, fun _ => ⟨vp_in_nI hk64 (by decide), trivial⟩⟩, rfl, fun _ => ⟨?_, hq.th 0⟩, fun z => absurd rfl z⟩
      rw [find_n _ hk64, nI_clamp (by omega)]
      exact (hR.ixpos k hk64).1
  · rw [goes1 (isKey0 hk), if_pos g0, if_neg hk]
    exact ⟨trivial, ⟨fun _ => trivial, fun z => absurd g0 z⟩, by rw [key_no hk]; rfl, fun z => absurd z hk, fun _ => hq.th _⟩
/-- the code of a method that may throw IllegalStateException alone -/
def kc1 (x : Nat) : Int32 := if x = 0 then 0 else 1
theorem kc1_0 : kc1 0 = 0 := rfl
theorem kc1_2 : kc1 2 = 1 := rfl
theorem dn1' {μ : MS} (h : mDn μ = 1) : (if mDn μ = 0 then 1 else 0 : Int32) = 0 := dn1 h
theorem sim_live {κ : KS} {μ : MS} {N : Nat} (h : RQ κ μ N) (h9 : N + 96 ≤ 100000) : SIM N (s_X2_live κ) (s_X3_live μ) (x_X2_live κ) (kc1 (x_X2_live κ)) (v_X2_live κ) (v_X3_live μ).1 κ κ (v_X3_live μ).2 := by
  have hq := (h.mono (show N ≤ N + 96 by omega) h9)
  unfold SIM s_X2_live s_X3_live x_X2_live v_X3_live v_X2_live
  rcases h.cases with ⟨hu, hn, hd, -⟩ | ⟨hu, hn, hd, H, T, W, C, hR⟩
  · rw [goes1 (dn1 hd), if_pos g0, hn, if_neg (by decide)]
    exact ⟨fun z => absurd z (by decide), ⟨fun _ => trivial, fun z => absurd g0 z⟩, rfl, fun z => absurd z (by decide), fun _ => hq.th _⟩
  · rw [goes0 (dn0 hd) n10, if_neg g1, hn, if_pos rfl]
    obtain ⟨s1, s2, v⟩ := live_eq (hR.th 0)
    exact ⟨fun _ => ⟨s1, trivial⟩, ⟨fun z => absurd z g1, fun _ => ⟨s2, trivial⟩⟩, rfl, fun _ => ⟨v, hq.th 0⟩, fun z => absurd rfl z⟩
/-- calls that never throw: the answers are the same, states side by side -/
def SIM0 (N : Nat) (sK sM : Prop) (rK rM : Int32) (κ' : KS) (μ' : MS) : Prop := sK ∧ sM ∧ rK = rM ∧ RQ κ' μ' (N + 96)
theorem sim_isUp {κ : KS} {μ : MS} {N : Nat} (h : RQ κ μ N) (h9 : N + 96 ≤ 100000) : bz (kUp κ) ∧ SIM0 N True True (v_X2_isUp κ) (v_X3_isUp μ).1 κ (v_X3_isUp μ).2 := by
  have hq := (h.mono (show N ≤ N + 96 by omega) h9)
  unfold SIM0 v_X2_isUp v_X3_isUp
  rcases h.cases with ⟨hu, hn, hd, -⟩ | ⟨hu, hn, hd, -⟩
  · rw [hu, hd, if_neg n10]
    exact ⟨bz0, trivial, trivial, rfl, hq.th 0⟩
  · rw [hu, hd, if_pos rfl]
    exact ⟨bz1, trivial, trivial, rfl, hq.th 0⟩
theorem headOf_n {κ : KS} {μ : MS} {N : Nat} (h : RQ κ μ N) : kHd κ = v_X3_headOf (mSTh μ 0) := by
  unfold v_X3_headOf
  rw [mDn_Th, mHd_Th, mWr_Th]
  obtain ⟨H, T, W, C, h | h⟩ := h
  · rw [if_pos h.2.2.1, h.2.2.2.1]; exact h.1.1.1
  · rw [if_neg (by rw [h.2.2.1]; exact n10), h.1.2.1.2.1, ← h.2.2.2]; exact h.1.1.1
theorem sim_head {κ : KS} {μ : MS} {N : Nat} (h : RQ κ μ N) (h9 : N + 96 ≤ 100000) : SIM0 N True True (v_X2_head κ) (v_X3_head μ).1 κ (v_X3_head μ).2 := ⟨trivial, trivial, headOf_n h, (h.mono (show N ≤ N + 96 by omega) h9).th 0⟩
theorem RQ.nums {κ : KS} {μ : MS} {N : Nat} (h : RQ κ μ N) : ∃ H T W C, kHd κ = nI H ∧ kTl κ = nI T ∧ kWr κ = nI W ∧ kCt κ = nI C ∧ mTl μ = nI T ∧ mWr μ = nI W ∧ mCp μ = nI C ∧ T ≤ H ∧ H ≤ T / 8 * 8 + 96 ∧ H ≤ 100000 := by
  obtain ⟨H, T, W, C, h⟩ := h
  have hC : RC κ μ N H T W C := h.elim (fun z => z.1) (fun z => z.1)
  obtain ⟨⟨a1, a2, a3, a4⟩, ⟨b1, b2, b3, b4⟩, ⟨c1, c2, c3, c4, c5, c6⟩, -⟩ := hC
  exact ⟨H, T, W, C, a1, a2, a3, a4, b1, b2, b3, by omega, c4, by omega⟩
theorem sim_tail {κ : KS} {μ : MS} {N : Nat} (h : RQ κ μ N) (h9 : N + 96 ≤ 100000) : SIM0 N True True (v_X2_tail κ) (v_X3_tail μ).1 κ (v_X3_tail μ).2 := by
  obtain ⟨H, T, W, C, a1, a2, a3, a4, b1, b2, b3, -⟩ := h.nums
  exact ⟨trivial, trivial, a2.trans b1.symm, (h.mono (show N ≤ N + 96 by omega) h9).th 0⟩
theorem sim_written {κ : KS} {μ : MS} {N : Nat} (h : RQ κ μ N) (h9 : N + 96 ≤ 100000) : SIM0 N True True (v_X2_written κ) (v_X3_written μ).1 κ (v_X3_written μ).2 := by
  obtain ⟨H, T, W, C, a1, a2, a3, a4, b1, b2, b3, -⟩ := h.nums
  exact ⟨trivial, trivial, a3.trans b2.symm, (h.mono (show N ≤ N + 96 by omega) h9).th 0⟩
theorem sim_checkpointAt {κ : KS} {μ : MS} {N : Nat} (h : RQ κ μ N) (h9 : N + 96 ≤ 100000) : SIM0 N True True (v_X2_checkpointAt κ) (v_X3_checkpointAt μ).1 κ (v_X3_checkpointAt μ).2 := by
  obtain ⟨H, T, W, C, a1, a2, a3, a4, b1, b2, b3, -⟩ := h.nums
  exact ⟨trivial, trivial, a4.trans b3.symm, (h.mono (show N ≤ N + 96 by omega) h9).th 0⟩
theorem sim_segments {κ : KS} {μ : MS} {N : Nat} (h : RQ κ μ N) (h9 : N + 96 ≤ 100000) : SIM0 N True True (v_X2_segments κ) (v_X3_segments μ).1 κ (v_X3_segments μ).2 := by
  obtain ⟨H, T, W, C, a1, a2, a3, a4, b1, b2, b3, t1, t2, t3⟩ := h.nums
  refine ⟨trivial, trivial, ?_, (h.mono (show N ≤ N + 96 by omega) h9).th 0⟩
  show v_X2_segments κ = v_X3_segmentsOf (mTl μ) (v_X3_headOf (mSTh μ 0))
  rw [← headOf_n h]
  unfold v_X2_segments v_X3_segmentsOf
  rw [a1, a2, b1]
  by_cases e : T = H
  · subst e
    rw [if_neg (nI_nlt (Nat.le_refl _) (by omega)), if_pos rfl]
  · obtain ⟨d, rfl⟩ : ∃ d, H = d + 1 := ⟨H - 1, by omega⟩
    rw [if_pos (nI_lt (by omega) (by omega)), if_neg (fun z => e ((nI_eq (by omega) (by omega)).mp z)), nI_pred, seg_n (by omega), seg_n (by omega), div8 (by omega), div8 (by omega)]
theorem sim_toFree {κ : KS} {μ : MS} {N : Nat} (h : RQ κ μ N) (h9 : N + 96 ≤ 100000) : SIM0 N True True (v_X2_toFree κ) (v_X3_toFree μ).1 κ (v_X3_toFree μ).2 := by
  obtain ⟨H, T, W, C, a1, a2, a3, a4, b1, b2, b3, t1, t2, t3⟩ := h.nums
  have e1 : nI (T / 8 + 1) * 8 = nI ((T / 8 + 1) * 8) := pk_mul (T / 8 + 1) 8
  have e2 : (8 : Int32) - nI (T % 8) = nI (8 - T % 8) := pk_sub (a := 8) (by omega)
  have e3 : (T / 8 + 1) * 8 - T = 8 - T % 8 := by omega
  unfold SIM0 v_X2_toFree v_X3_toFree
  rw [← headOf_n h, a1, a2, b1, seg_n (by omega), nI_1, e1, pk_sub (by omega), pk_sub (by omega), rem8 (by omega), e2, e3]
  have hq := (h.mono (show N ≤ N + 96 by omega) h9).th 0
  by_cases c : 8 - T % 8 ≤ H - T
  · rw [if_neg (nI_nlt c (by omega)), if_pos (nI_le c (by omega))]
    exact ⟨trivial, trivial, rfl, hq⟩
  · rw [if_pos (nI_lt (by omega) (by omega)), if_neg (nI_ge (by omega) (by omega))]
    exact ⟨trivial, trivial, rfl, hq⟩

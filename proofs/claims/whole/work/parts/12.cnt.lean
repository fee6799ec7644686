-- ===== counting =====
def cnt (P : Nat → Bool) : Nat → Nat → Nat
  | 0, _ => 0
  | j + 1, i => (if P i then 1 else 0) + cnt P j (i + 1)
theorem cnt_le (P : Nat → Bool) : ∀ (j i : Nat), cnt P j i ≤ j := by
  intro j
  induction j with
  | zero => intro i; exact Nat.le_refl 0
  | succ j ih =>
    intro i
    have h := ih (i + 1)
    show (if P i then 1 else 0) + cnt P j (i + 1) ≤ j + 1
    split <;> omega
theorem cnt_cong {P Q : Nat → Bool} : ∀ (j i : Nat), (∀ p, i ≤ p → p < i + j → P p = Q p) → cnt P j i = cnt Q j i := by
  intro j
  induction j with
  | zero => intro i _; rfl
  | succ j ih =>
    intro i h
    show (if P i then 1 else 0) + cnt P j (i + 1) = (if Q i then 1 else 0) + cnt Q j (i + 1)
    rw [h i (by omega) (by omega), ih (i + 1) (fun p h1 h2 => h p (by omega) (by omega))]
theorem cnt_fb (P : Nat → Bool) : ∀ (j i : Nat), cnt P j i = fb_ct (fun r => P (i + r)) j := by
  intro j
  induction j with
  | zero => intro i; rfl
  | succ j ih =>
    intro i
    show (if P i then 1 else 0) + cnt P j (i + 1) = _
    rw [ih (i + 1), show j + 1 = 1 + j by omega, fb_ct_split _ 1 j]
    show _ = (0 + (if P (i + 0) then 1 else 0)) + fb_ct (fun k => P (i + (1 + k))) j
    rw [Nat.zero_add, Nat.add_zero]
    exact congrArg (fun z => (if P i then 1 else 0) + z) (fb_ct_cong (fun k _ => by rw [show i + 1 + k = i + (1 + k) by omega]))
theorem ct_one {n q : Nat} (b : Bool) (h : q < n) : fb_ct (fun k => if k = q then b else false) n = if b then 1 else 0 := by
  have h1 := fb_ct_upd (fun _ => false) b h
  have h2 : fb_ct (fun _ => false) n = 0 := fb_ct_zero.mpr (fun _ _ => rfl)
  rw [h2] at h1
  simpa using h1
-- ===== live entries =====
def lvb (lk ix : Nat → Int32) (p : Nat) : Bool := decide (ix (lk (p % 96)).toNatClampNeg = nI p)
theorem lvb_q {lk ix : Nat → Int32} {p q : Nat} (hq : q < 64) (hk : lk (p % 96) = nI q) : lvb lk ix p = decide (ix q = nI p) := by
  unfold lvb
  rw [hk, nI_clamp (by omega)]
theorem isLive_n {κ : KS} {p q : Nat} (hp : p < 2 ^ 31) (hq : q < 64) (hk : kLk κ (p % 96) = nI q) : v_X2_isLive κ (nI p) = if kIx κ q = nI p then 1 else 0 := by
  unfold v_X2_isLive
  rw [keyAt_n _ hp]
  show (if v_X0_find (kIx κ) (kLk κ (p % 96)) = nI p then 1 else 0 : Int32) = _
  rw [hk, find_n _ hq]
theorem isLive_s (κ : KS) (p : Int32) : s_X2_isLive κ p := ⟨keyAt_s _ _, trivial⟩
/-- liveFromTail and liveIn, entry by entry -/
theorem live_l (κ : KS) (μ : MS) {T H E : Nat} (y1 p1 : Int32) (hI : IV (kLk κ) (kLv κ) (mKy μ) (mVl μ) T H) (hH : H < 2 ^ 31) (hX : ∀ k, k < 64 → kIx κ k = mIx μ k) (hE : E ≤ H) (hm : mTl μ + p1 = nI E) : ∀ (j n i c : Nat), i + j = E → j < n → T ≤ i →
    sl_X2_liveFromTail_15 κ (nI E) y1 n (nI c) (nI i) ∧ sl_X3_liveIn_7 μ p1 n (nI c) (nI i) ∧ (l_X2_liveFromTail_15 κ (nI E) y1 n (nI c) (nI i)).1 = nI (c + cnt (lvb (kLk κ) (kIx κ)) j i) ∧ (l_X3_liveIn_7 μ p1 n (nI c) (nI i)).1 = nI (c + cnt (lvb (kLk κ) (kIx κ)) j i) := by
  intro j
  induction j with
  | zero =>
    intro n i c hi hn hT
    obtain ⟨n, rfl⟩ := sc hn
    have hx : nI E ≤ nI i := nI_le (by omega) (by omega)
    rw [sl_X2_liveFromTail_15_s, l_X2_liveFromTail_15_s, sl_X3_liveIn_7_s, l_X3_liveIn_7_s, hm, if_pos hx, if_pos hx]
    exact ⟨⟨fun _ => trivial, fun h => absurd hx h⟩, ⟨fun _ => trivial, fun h => absurd hx h⟩, rfl, rfl⟩
  | succ j ih =>
    intro n i c hi hn hT
    obtain ⟨n, rfl⟩ := sc hn
    have hi31 : i < 2 ^ 31 := by omega
    have hx : ¬ nI E ≤ nI i := nI_ge (by omega) (by omega)
    obtain ⟨⟨q, hq, k1, k2⟩, e3, e4⟩ := hI i hT (by omega)
    have h9 : i % 128 < 128 := Nat.mod_lt _ (by decide)
    rw [sl_X2_liveFromTail_15_s, l_X2_liveFromTail_15_s, sl_X3_liveIn_7_s, l_X3_liveIn_7_s, hm, if_neg hx, if_neg hx, isLive_n hi31 hq k1, rem128 hi31, nI_clamp (n := i % 128) (by omega), k2, nI_clamp (n := q) (by omega), ← hX q hq, nI_1 i]
    have hc : cnt (lvb (kLk κ) (kIx κ)) (j + 1) i = (if kIx κ q = nI i then 1 else 0) + cnt (lvb (kLk κ) (kIx κ)) j (i + 1) := by
      show (if lvb (kLk κ) (kIx κ) i then 1 else 0) + _ = _
      rw [lvb_q hq k1]
      simp only [decide_eq_true_eq]
    rw [hc]
    have hin : vp_in (nI q) 64 := vp_in_nI hq (by decide)
    by_cases hl : kIx κ q = nI i
    · rw [if_pos hl, if_pos hl, if_neg (by decide : ¬ (1 : Int32) = 0), nI_1 c]
      have h1 := ih n (i + 1) (c + 1) (by omega) (by omega) (by omega)
      rw [show c + (1 + cnt (lvb (kLk κ) (kIx κ)) j (i + 1)) = c + 1 + cnt (lvb (kLk κ) (kIx κ)) j (i + 1) by omega]
      exact ⟨⟨fun h => absurd h hx, fun _ => ⟨isLive_s _ _, h1.1⟩⟩, ⟨fun h => absurd h hx, fun _ => ⟨in128, hin, h1.2.1⟩⟩, h1.2.2⟩
    · rw [if_neg hl, if_neg hl, if_pos rfl, Int32.add_zero]
      have h1 := ih n (i + 1) c (by omega) (by omega) (by omega)
      rw [show c + (0 + cnt (lvb (kLk κ) (kIx κ)) j (i + 1)) = c + cnt (lvb (kLk κ) (kIx κ)) j (i + 1) by omega]
      exact ⟨⟨fun h => absurd h hx, fun _ => ⟨isLive_s _ _, h1.1⟩⟩, ⟨fun h => absurd h hx, fun _ => ⟨in128, hin, h1.2.1⟩⟩, h1.2.2⟩
theorem live_v {κ : KS} {μ : MS} {N H T W C e : Nat} (h : RU κ μ N H T W C) (he : T + e ≤ H) (h96 : e ≤ 96) : s_X2_liveFromTail κ (nI e) ∧ s_X3_liveIn μ (nI e) ∧ v_X2_liveFromTail κ (nI e) = nI (cnt (lvb (kLk κ) (kIx κ)) e T) ∧ v_X3_liveIn μ (nI e) = nI (cnt (lvb (kLk κ) (kIx κ)) e T) := by
  obtain ⟨⟨⟨a1, a2, a3, a4⟩, ⟨b1, b2, b3, b4⟩, ⟨c1, c2, c3, c4, c5, c6⟩, hI, hC⟩, hu, hd, hm, hX⟩ := h
  have h1 := live_l κ μ (nI e) (nI e) hI (by omega) (fun k hk => (hX k hk).1) he (by rw [b1, nI_add]) e 100 T 0 rfl (by omega) (Nat.le_refl _)
  rw [nI_0, Nat.zero_add] at h1
  unfold s_X2_liveFromTail v_X2_liveFromTail s_X3_liveIn v_X3_liveIn
  rw [a2, b1, nI_add]
  exact ⟨⟨h1.1, trivial⟩, ⟨h1.2.1, trivial⟩, h1.2.2.1, h1.2.2.2⟩
/-- as many live entries as keys -/
theorem live_keys {lk lv ky vl ix jx : Nat → Int32} {T H : Nat} (hI : IV lk lv ky vl T H) (hX : XV lk lv ix jx T H) (hH : H < 2 ^ 31) : ∀ (j i : Nat), i + j = H → T ≤ i → cnt (lvb lk ix) j i = fb_ct (fun k => decide (nI i ≤ ix k)) 64 := by
  intro j
  induction j with
  | zero =>
    intro i hi hT
    refine (fb_ct_zero.mpr (fun k hk => ?_)).symm
    obtain ⟨-, e2⟩ := hX k hk
    refine decide_eq_false ?_
    rcases e2 with e2 | ⟨p, e3, e4, e5, -⟩
    · rw [e2]; exact m1lt (by omega)
    · rw [e3]; exact nI_ge (by omega) (by omega)
  | succ j ih =>
    intro i hi hT
    obtain ⟨⟨q, hq, k1, k2⟩, -, -⟩ := hI i hT (by omega)
    have h1 := ih (i + 1) (by omega) (by omega)
    show (if lvb lk ix i then 1 else 0) + cnt (lvb lk ix) j (i + 1) = _
    rw [h1, lvb_q hq k1, ← ct_one (n := 64) (decide (ix q = nI i)) hq, ← fb_ct_or]
    · refine fb_ct_cong (fun k hk => ?_)
      obtain ⟨-, e2⟩ := hX k hk
      by_cases e : k = q
      · subst e
        rw [if_pos rfl]
        rcases e2 with e2 | ⟨p, e3, e4, e5, e6, -⟩
        · rw [e2, decide_eq_false (fun z : (-1 : Int32) = nI i => n_ne1 (by omega) z.symm), decide_eq_false (m1lt (by omega)), decide_eq_false (m1lt (by omega))]; rfl
        · rw [e3]
          by_cases z : p = i
          · subst z
            rw [decide_eq_true rfl, decide_eq_true (nI_le (Nat.le_refl _) (by omega))]; rfl
          · rw [decide_eq_false (fun w : nI p = nI i => z ((nI_eq (by omega) (by omega)).mp w)), Bool.false_or]
            exact decide_eq_decide.mpr (by rw [nI_leI (by omega) (by omega), nI_leI (by omega) (by omega)]; omega)
      · rw [if_neg e, Bool.false_or]
        refine decide_eq_decide.mpr ?_
        rcases e2 with e2 | ⟨p, e3, e4, e5, e6, -⟩
        · rw [e2]
          exact ⟨fun z => absurd z (m1lt (by omega)), fun z => absurd z (m1lt (by omega))⟩
        · rw [e3, nI_leI (by omega) (by omega), nI_leI (by omega) (by omega)]
          have hne : p ≠ i := fun z => by
            subst z
            rw [k1] at e6
            exact e ((nI_eq (by omega) (by omega)).mp e6.symm)
          omega
    · intro k hk ⟨z1, z2⟩
      by_cases e : k = q
      · subst e
        rw [if_pos rfl] at z1
        have y1 := of_decide_eq_true z1
        have y2 := of_decide_eq_true z2
        rw [y1] at y2
        exact absurd y2 (nI_ge (by omega) (by omega))
      · rw [if_neg e] at z1
        cases z1
/-- the reference's count of its keys -/
theorem livem_l (μ : MS) {f : Nat → Int32} (hf : ∀ k, k < 64 → f k = mIx μ k ∧ (f k = -1 ∨ 0 ≤ f k)) : ∀ (j n i c : Nat), i + j = 64 → j < n → sl_X3_live_26 μ n (nI c) (nI i) ∧ (l_X3_live_26 μ n (nI c) (nI i)).1 = nI (c + cnt (fun k => decide (0 ≤ f k)) j i) := by
  intro j
  induction j with
  | zero =>
    intro n i c hi hn
    obtain ⟨n, rfl⟩ := sc hn
    have h64 : (64 : Int32) ≤ nI i := (le64 (by omega)).mpr (by omega)
    rw [sl_X3_live_26_s, l_X3_live_26_s, if_pos h64]
    exact ⟨⟨fun _ => trivial, fun h => absurd h64 h⟩, rfl⟩
  | succ j ih =>
    intro n i c hi hn
    obtain ⟨n, rfl⟩ := sc hn
    have h64 : ¬ (64 : Int32) ≤ nI i := fun e => absurd ((le64 (by omega)).mp e) (by omega)
    have hin : vp_in (nI i) 64 := vp_in_nI (by omega) (by decide)
    rw [sl_X3_live_26_s, l_X3_live_26_s, if_neg h64, nI_clamp (by omega), nI_1]
    obtain ⟨e1, e2⟩ := hf i (by omega)
    have hc : cnt (fun k => decide (0 ≤ f k)) (j + 1) i = (if 0 ≤ f i then 1 else 0) + cnt (fun k => decide (0 ≤ f k)) j (i + 1) := by
      show (if decide (0 ≤ f i) = true then 1 else 0) + _ = _
      simp only [decide_eq_true_eq]
    rw [hc, ← e1]
    rcases e2 with e2 | e2
    · have hn0 : ¬ (0 : Int32) ≤ f i := by rw [e2]; exact n_nle1
      have hlt : f i < 0 := by rw [e2]; exact n_m1lt
      rw [if_neg hn0, if_pos hlt, Int32.add_zero, Nat.zero_add]
      have h1 := ih n (i + 1) c (by omega) (by omega)
      exact ⟨⟨fun h => absurd h h64, fun _ => ⟨hin, h1.1⟩⟩, h1.2⟩
    · rw [if_pos e2, if_neg (n_lt e2), nI_1, ← Nat.add_assoc]
      have h1 := ih n (i + 1) (c + 1) (by omega) (by omega)
      exact ⟨⟨fun h => absurd h h64, fun _ => ⟨hin, h1.1⟩⟩, h1.2⟩
/-- live(): both sides -/
theorem live_eq {κ : KS} {μ : MS} {N H T W C : Nat} (h : RU κ μ N H T W C) : s_X2_liveFromTail κ (kHd κ - kTl κ) ∧ sl_X3_live_26 μ 100 0 0 ∧ v_X2_liveFromTail κ (kHd κ - kTl κ) = (l_X3_live_26 μ 100 0 0).1 := by
  obtain ⟨⟨⟨a1, a2, a3, a4⟩, ⟨b1, b2, b3, b4⟩, ⟨c1, c2, c3, c4, c5, c6⟩, hI, hC⟩, hu, hd, hm, hX⟩ := id h
  have e : kHd κ - kTl κ = nI (H - T) := by rw [a1, a2, pk_sub (by omega)]
  obtain ⟨s1, -, v1, -⟩ := live_v h (e := H - T) (by omega) (by omega)
  have hf : ∀ k, k < 64 → kIx κ k = mIx μ k ∧ (kIx κ k = -1 ∨ 0 ≤ kIx κ k) := fun k hk => by
    obtain ⟨d1, d2⟩ := hX k hk
    refine ⟨d1, ?_⟩
    rcases d2 with d2 | ⟨p, d3, -, d5, -⟩
    · exact Or.inl d2
    · rw [d3]; exact Or.inr (nI_pos' (by omega))
  obtain ⟨s2, v2⟩ := livem_l μ hf 64 100 0 0 (by omega) (by omega)
  rw [nI_0] at s2 v2
  rw [Nat.zero_add] at v2
  rw [e, v2]
  refine ⟨s1, s2, ?_⟩
  rw [v1, live_keys hI hX (by omega) (H - T) T (by omega) (Nat.le_refl _), cnt_fb]
  refine congrArg nI (fb_ct_cong (fun k hk => ?_))
  rw [Nat.zero_add]
  obtain ⟨-, d2⟩ := hX k hk
  refine decide_eq_decide.mpr ?_
  rcases d2 with d2 | ⟨p, d3, d4, d5, -⟩
  · rw [d2]
    exact ⟨fun z => absurd z (m1lt (by omega)), fun z => absurd z n_nle1⟩
  · rw [d3]
    exact ⟨fun _ => nI_pos' (by omega), fun _ => nI_le d4 (by omega)⟩
-- ===== next =====
def nx (f : Nat → Int32) : Nat → Nat → Int32
  | 0, _ => -1
  | j + 1, i => if f i = -1 then nx f j (i + 1) else nI i
theorem has_n (f : Nat → Int32) {k : Nat} (h : k < 64) : v_X0_has f (nI k) = if f k = -1 then 0 else 1 := by
  unfold v_X0_has
  rw [find_n f h]
theorem nextk_l (κ : KS) (y : Int32) : ∀ (j n i : Nat), i + j = 64 → j < n → sl_X2_next_10 κ y n (nI i) ∧ l_X2_next_10 κ y n (nI i) = nx (kIx κ) j i := by
  intro j
  induction j with
  | zero =>
    intro n i hi hn
    obtain ⟨n, rfl⟩ := sc hn
    have h64 : (64 : Int32) ≤ nI i := (le64 (by omega)).mpr (by omega)
    rw [sl_X2_next_10_s, l_X2_next_10_s, if_pos h64]
    exact ⟨⟨fun _ => trivial, fun h => absurd h64 h⟩, rfl⟩
  | succ j ih =>
    intro n i hi hn
    obtain ⟨n, rfl⟩ := sc hn
    have h64 : ¬ (64 : Int32) ≤ nI i := fun e => absurd ((le64 (by omega)).mp e) (by omega)
    rw [sl_X2_next_10_s, l_X2_next_10_s, if_neg h64, has_n _ (by omega), nI_1]
    have h1 := ih n (i + 1) (by omega) (by omega)
    show _ ∧ _ = (if kIx κ i = -1 then nx (kIx κ) j (i + 1) else nI i)
    by_cases e : kIx κ i = -1
    · rw [if_pos e, if_pos e, if_pos rfl]
      exact ⟨⟨fun h => absurd h h64, fun _ => ⟨fun _ => h1.1, fun z => absurd rfl z⟩⟩, h1.2⟩
    · rw [if_neg e, if_neg e, if_neg (by decide : ¬ (1 : Int32) = 0)]
      exact ⟨⟨fun h => absurd h h64, fun _ => ⟨fun z => absurd z (by decide), fun _ => trivial⟩⟩, rfl⟩
theorem lt_m1 : ∀ (y : Nat), y < 2 ^ 31 → nI y + (-1) < nI y := by
  intro y h
  cases y with
  | zero => decide
  | succ y => rw [pk_m1]; exact nI_lt (by omega) h
theorem nextm_l (μ : MS) {f : Nat → Int32} (hf : ∀ k, k < 64 → f k = mIx μ k ∧ (f k = -1 ∨ 0 ≤ f k)) {y : Nat} (hy : y < 64) : ∀ (j n : Nat), y + j ≤ 64 → j < n → sl_X3_next_30 μ (nI y) n (nx f (64 - (y + j)) (y + j)) (nI (y + j) + (-1)) ∧ (l_X3_next_30 μ (nI y) n (nx f (64 - (y + j)) (y + j)) (nI (y + j) + (-1))).1 = nx f (64 - y) y := by
  intro j
  induction j with
  | zero =>
    intro n hi hn
    obtain ⟨n, rfl⟩ := sc hn
    have hx := lt_m1 y (by omega)
    rw [sl_X3_next_30_s, l_X3_next_30_s, Nat.add_zero, if_pos hx]
    exact ⟨⟨fun _ => trivial, fun h => absurd hx h⟩, rfl⟩
  | succ j ih =>
    intro n hi hn
    obtain ⟨n, rfl⟩ := sc hn
    have hx : ¬ nI (y + j) < nI y := nI_nlt (by omega) (by omega)
    have hin : vp_in (nI (y + j)) 64 := vp_in_nI (by omega) (by decide)
    rw [sl_X3_next_30_s, l_X3_next_30_s, show y + (j + 1) = y + j + 1 by omega, pk_m1, if_neg hx, nI_clamp (by omega)]
    obtain ⟨e1, e2⟩ := hf (y + j) (by omega)
    have hv : (if mIx μ (y + j) < 0 then nx f (64 - (y + j + 1)) (y + j + 1) else nI (y + j) : Int32) = nx f (64 - (y + j)) (y + j) := by
      rw [show 64 - (y + j) = (64 - (y + j + 1)) + 1 by omega]
      show _ = (if f (y + j) = -1 then nx f (64 - (y + j + 1)) (y + j + 1) else nI (y + j))
      rw [← e1]
      rcases e2 with e2 | e2
      · rw [e2, if_pos n_m1lt, if_pos rfl]
      · rw [if_neg (n_lt e2), if_neg (n_pos1 e2)]
    rw [hv]
    have h1 := ih n (by omega) (by omega)
    exact ⟨⟨fun h => absurd h hx, fun _ => ⟨hin, h1.1⟩⟩, h1.2⟩
-- ===== values and sums =====
theorem valueOf_s (κ : KS) (p : Int32) : s_X2_valueOf κ p := ⟨valueAt_s _ _, trivial⟩
theorem valueOf_eq {κ : KS} {μ : MS} {N H T W C k : Nat} (h : RU κ μ N H T W C) (hk : k < 64) : s_X3_valueOf μ (nI k) ∧ ((kIx κ k = -1 ∧ mIx μ k = -1 ∧ v_X3_valueOf μ (nI k) = -1) ∨ (¬ kIx κ k = -1 ∧ 0 ≤ mIx μ k ∧ v_X2_valueOf κ (nI k) = v_X3_valueOf μ (nI k))) := by
  obtain ⟨⟨⟨a1, a2, a3, a4⟩, ⟨b1, b2, b3, b4⟩, ⟨c1, c2, c3, c4, c5, c6⟩, hI, hC⟩, hu, hd, hm, hX⟩ := h
  obtain ⟨d1, d2⟩ := hX k hk
  have hin : vp_in (nI k) 64 := vp_in_nI hk (by decide)
  unfold s_X3_valueOf v_X3_valueOf v_X2_valueOf
  rw [nI_clamp (by omega), find_n _ hk, ← d1]
  rcases d2 with d2 | ⟨p, d3, d4, d5, -⟩
  · rw [d2, if_neg n_nle1]
    exact ⟨⟨hin, fun z => absurd z n_nle1, fun _ => trivial⟩, Or.inl ⟨rfl, rfl, rfl⟩⟩
  · have h9 : p % 128 < 128 := Nat.mod_lt _ (by decide)
    have h0 : (0 : Int32) ≤ nI p := nI_pos' (by omega)
    rw [d3, if_pos h0, valueAt_n _ (by omega), rem128 (by omega), nI_clamp (by omega)]
    exact ⟨⟨hin, fun _ => ⟨hin, in128, trivial⟩, fun z => absurd h0 z⟩, Or.inr ⟨n_ne1 (by omega), h0, (hI p d4 d5).2.1⟩⟩
theorem sum_l {κ : KS} {μ : MS} {N H T W C : Nat} (h : RU κ μ N H T W C) (y1 : Int32) {t : Nat} (ht : t < 64) : ∀ (j n i : Nat) (x : Int32), i + j = t + 1 → j < n → sl_X2_sum_14 κ y1 (nI t) n x (nI i) ∧ sl_X3_sum_31 μ y1 (nI t) n x (nI i) ∧ (l_X2_sum_14 κ y1 (nI t) n x (nI i)).1 = (l_X3_sum_31 μ y1 (nI t) n x (nI i)).1 := by
  intro j
  induction j with
  | zero =>
    intro n i x hi hn
    obtain ⟨n, rfl⟩ := sc hn
    have hx : nI t < nI i := nI_lt (by omega) (by omega)
    rw [sl_X2_sum_14_s, l_X2_sum_14_s, sl_X3_sum_31_s, l_X3_sum_31_s, if_pos hx, if_pos hx]
    exact ⟨⟨fun _ => trivial, fun h => absurd hx h⟩, ⟨fun _ => trivial, fun h => absurd hx h⟩, rfl⟩
  | succ j ih =>
    intro n i x hi hn
    obtain ⟨n, rfl⟩ := sc hn
    have hx : ¬ nI t < nI i := nI_nlt (by omega) (by omega)
    have hin : vp_in (nI i) 64 := vp_in_nI (by omega) (by decide)
    obtain ⟨sv, hv⟩ := valueOf_eq h (k := i) (by omega)
    rw [sl_X2_sum_14_s, l_X2_sum_14_s, sl_X3_sum_31_s, l_X3_sum_31_s, if_neg hx, if_neg hx, has_n _ (by omega), nI_clamp (by omega), nI_1]
    rcases hv with ⟨e1, e2, -⟩ | ⟨e1, e2, e3⟩
    · rw [if_pos e1, if_pos rfl, e2, if_pos n_m1lt, Int32.add_zero]
      have h1 := ih n (i + 1) x (by omega) (by omega)
      exact ⟨⟨fun h => absurd h hx, fun _ => ⟨⟨fun _ => trivial, fun z => absurd rfl z⟩, h1.1⟩⟩, ⟨fun h => absurd h hx, fun _ => ⟨hin, ⟨fun _ => trivial, fun z => absurd n_m1lt z⟩, h1.2.1⟩⟩, h1.2.2⟩
    · have h10 : ¬ (1 : Int32) = 0 := by decide
      rw [if_neg e1, if_neg h10, if_neg (n_lt e2), e3]
      have h1 := ih n (i + 1) (x + v_X3_valueOf μ (nI i)) (by omega) (by omega)
      exact ⟨⟨fun h => absurd h hx, fun _ => ⟨⟨fun z => absurd z h10, fun _ => ⟨valueOf_s _ _, trivial⟩⟩, h1.1⟩⟩, ⟨fun h => absurd h hx, fun _ => ⟨hin, ⟨fun z => absurd z (n_lt e2), fun _ => ⟨sv, trivial⟩⟩, h1.2.1⟩⟩, h1.2.2⟩

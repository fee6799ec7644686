-- ===== fetches =====
/-- one of the keys from i on, j of them, lies in the segment S + s -/
def prs (f : Nat → Int32) (S : Nat) : Nat → Nat → Nat → Bool
  | 0, _, _ => false
  | j + 1, i, s => decide (¬ f i = -1 ∧ (f i).toNatClampNeg / 8 = S + s) || prs f S j (i + 1) s
theorem prs_any {f : Nat → Int32} {S s : Nat} : ∀ (j i : Nat), prs f S j i s = true → ∃ k, i ≤ k ∧ k < i + j ∧ ¬ f k = -1 ∧ (f k).toNatClampNeg / 8 = S + s := by
  intro j
  induction j with
  | zero => intro i h; cases h
  | succ j ih =>
    intro i h
    rcases Bool.or_eq_true_iff.mp h with h | h
    · have h2 := of_decide_eq_true h
      exact ⟨i, Nat.le_refl _, by omega, h2.1, h2.2⟩
    · obtain ⟨k, h1, h2, h3⟩ := ih (i + 1) h
      exact ⟨k, by omega, by omega, h3⟩
theorem shl_n : ∀ d, d < 12 → (1 : Int32) <<< (nI d &&& 31) = nI (2 ^ d) := by decide +kernel
theorem bc_n0 : ∀ a, a < 64 → ∀ b, b < 64 → v_J6_bitCount_0f7a4 (nI (64 * a + b)) = nI (fb_ct (fun s => (64 * a + b).testBit s) 12) := by decide +kernel
theorem bc_n (M : Nat) (h : M < 4096) : v_J6_bitCount_0f7a4 (nI M) = nI (fb_ct (fun s => M.testBit s) 12) := by
  have h1 := bc_n0 (M / 64) (by omega) (M % 64) (by omega)
  rw [show 64 * (M / 64) + M % 64 = M by omega] at h1
  exact h1
theorem fetk_l {κ : KS} {μ : MS} {N H T W C : Nat} (h : RU κ μ N H T W C) (y1 : Int32) {t : Nat} (ht : t < 64) : ∀ (j n i M : Nat), i + j = t + 1 → j < n → M < 4096 → sl_X2_fetches_23 κ (nI (T / 8)) y1 (nI t) n (nI M) (nI i) ∧ ∃ M', M' < 4096 ∧ (l_X2_fetches_23 κ (nI (T / 8)) y1 (nI t) n (nI M) (nI i)).1 = nI M' ∧ ∀ s, s < 12 → M'.testBit s = (M.testBit s || prs (kIx κ) (T / 8) j i s) := by
  obtain ⟨⟨⟨a1, a2, a3, a4⟩, ⟨b1, b2, b3, b4⟩, ⟨c1, c2, c3, c4, c5, c6⟩, hI, hC⟩, hu, hd, hm, hX⟩ := h
  intro j
  induction j with
  | zero =>
    intro n i M hi hn hM
    obtain ⟨n, rfl⟩ := sc hn
    have hx : nI t < nI i := nI_lt (by omega) (by omega)
    rw [sl_X2_fetches_23_s, l_X2_fetches_23_s, if_pos hx]
    exact ⟨⟨fun _ => trivial, fun h => absurd hx h⟩, M, hM, rfl, fun s _ => (Bool.or_false _).symm⟩
  | succ j ih =>
    intro n i M hi hn hM
    obtain ⟨n, rfl⟩ := sc hn
    have hx : ¬ nI t < nI i := nI_nlt (by omega) (by omega)
    rw [sl_X2_fetches_23_s, l_X2_fetches_23_s, if_neg hx, has_n _ (by omega), find_n _ (by omega), nI_1]
    obtain ⟨-, d2⟩ := hX i (by omega)
    rcases d2 with d2 | ⟨p, d3, d4, d5, -⟩
    · rw [if_pos d2, if_pos rfl]
      obtain ⟨s1, M', m1, m2, m3⟩ := ih n (i + 1) M (by omega) (by omega) hM
      refine ⟨⟨fun h => absurd h hx, fun _ => s1⟩, M', m1, m2, fun s hs => ?_⟩
      rw [m3 s hs]
      show _ = (M.testBit s || (decide (¬ kIx κ i = -1 ∧ (kIx κ i).toNatClampNeg / 8 = T / 8 + s) || prs (kIx κ) (T / 8) j (i + 1) s))
      rw [decide_eq_false (fun z => z.1 d2), Bool.false_or]
    · have hne : ¬ kIx κ i = -1 := by rw [d3]; exact n_ne1 (by omega)
      have h10 : ¬ (1 : Int32) = 0 := by decide
      have hd1 : p / 8 - T / 8 < 12 := by omega
      rw [if_neg hne, if_neg h10, d3, seg_n (by omega), pk_sub (by omega), shl_n _ hd1, n_or]
      have hM1 : M ||| 2 ^ (p / 8 - T / 8) < 4096 := Nat.or_lt_two_pow (n := 12) hM (Nat.pow_lt_pow_right (by decide) hd1)
      obtain ⟨s1, M', m1, m2, m3⟩ := ih n (i + 1) (M ||| 2 ^ (p / 8 - T / 8)) (by omega) (by omega) hM1
      refine ⟨⟨fun h => absurd h hx, fun _ => s1⟩, M', m1, m2, fun s hs => ?_⟩
      rw [m3 s hs, Nat.testBit_or, Nat.testBit_two_pow]
      show _ = (M.testBit s || (decide (¬ kIx κ i = -1 ∧ (kIx κ i).toNatClampNeg / 8 = T / 8 + s) || prs (kIx κ) (T / 8) j (i + 1) s))
      rw [Bool.or_assoc, d3, nI_clamp (by omega)]
      have e : decide (p / 8 - T / 8 = s) = decide (¬ nI p = -1 ∧ p / 8 = T / 8 + s) := decide_eq_decide.mpr ⟨fun z => ⟨n_ne1 (by omega), by omega⟩, fun z => by omega⟩
      rw [e]
theorem fetm_l {κ : KS} {μ : MS} {N H T W C : Nat} (h : RU κ μ N H T W C) (y3 y1 : Int32) {t s : Nat} (ht : t < 64) (hs : s < 20) : ∀ (j n i : Nat) (b : Bool), i + j = t + 1 → j < n → sl_X3_fetches_55 μ y3 (nI (T / 8 + s)) y1 (nI t) n (if b then 1 else 0) (nI i) ∧ (l_X3_fetches_55 μ y3 (nI (T / 8 + s)) y1 (nI t) n (if b then 1 else 0) (nI i)).1 = if (b || prs (kIx κ) (T / 8) j i s) then 1 else 0 := by
  obtain ⟨⟨⟨a1, a2, a3, a4⟩, ⟨b1, b2, b3, b4⟩, ⟨c1, c2, c3, c4, c5, c6⟩, hI, hC⟩, hu, hd, hm, hX⟩ := h
  intro j
  induction j with
  | zero =>
    intro n i b hi hn
    obtain ⟨n, rfl⟩ := sc hn
    have hx : nI t < nI i := nI_lt (by omega) (by omega)
    rw [sl_X3_fetches_55_s, l_X3_fetches_55_s, if_pos hx]
    refine ⟨⟨fun _ => trivial, fun h => absurd hx h⟩, ?_⟩
    show (if b then 1 else 0 : Int32) = if (b || false) then 1 else 0
    rw [Bool.or_false]
  | succ j ih =>
    intro n i b hi hn
    obtain ⟨n, rfl⟩ := sc hn
    have hx : ¬ nI t < nI i := nI_nlt (by omega) (by omega)
    have hin : vp_in (nI i) 64 := vp_in_nI (by omega) (by decide)
    rw [sl_X3_fetches_55_s, l_X3_fetches_55_s, if_neg hx, nI_clamp (by omega), nI_1]
    obtain ⟨d1, d2⟩ := hX i (by omega)
    have hv : (if (if b then 1 else 0 : Int32) = 0 then if mIx μ i < 0 then 0 else if mIx μ i / 8 = nI (T / 8 + s) then 1 else 0 else 1 : Int32) = if (b || decide (¬ kIx κ i = -1 ∧ (kIx κ i).toNatClampNeg / 8 = T / 8 + s)) then 1 else 0 := by
      cases b with
      | true => rfl
      | false =>
        have z : (if false = true then 1 else 0 : Int32) = 0 := rfl
        rw [if_pos z, Bool.false_or, ← d1]
        rcases d2 with d2 | ⟨p, d3, d4, d5, -⟩
        · rw [d2, if_pos n_m1lt, decide_eq_false (fun z => z.1 rfl)]; rfl
        · rw [d3, if_neg (nI_pos (by omega)), div8 (by omega), nI_clamp (by omega)]
          by_cases z : p / 8 = T / 8 + s
          · rw [z, if_pos rfl, decide_eq_true ⟨n_ne1 (by omega), rfl⟩]; rfl
          · rw [if_neg (fun w => z ((nI_eq (by omega) (by omega)).mp w)), decide_eq_false (fun w => z w.2)]; rfl
    rw [hv]
    obtain ⟨s1, v1⟩ := ih n (i + 1) (b || decide (¬ kIx κ i = -1 ∧ (kIx κ i).toNatClampNeg / 8 = T / 8 + s)) (by omega) (by omega)
    refine ⟨⟨fun h => absurd h hx, fun _ => ⟨⟨fun _ => ⟨hin, fun _ => trivial, fun _ => ⟨hin, trivial⟩⟩, fun _ => trivial⟩, s1⟩⟩, ?_⟩
    rw [v1, Bool.or_assoc]
    rfl
theorem feto_l {κ : KS} {μ : MS} {N H T W C : Nat} (h : RU κ μ N H T W C) {fr t : Nat} (hft : fr ≤ t) (ht : t < 64) : ∀ (m n s c : Nat), T / 8 + s + m = H / 8 + 1 → m < n → s + m < 20 → sl_X3_fetches_37 μ (nI fr) (nI t) n (nI c) (nI (T / 8 + s)) ∧ (l_X3_fetches_37 μ (nI fr) (nI t) n (nI c) (nI (T / 8 + s))).1 = nI (c + cnt (fun s => prs (kIx κ) (T / 8) (t + 1 - fr) fr s) m s) := by
  obtain ⟨⟨⟨a1, a2, a3, a4⟩, ⟨b1, b2, b3, b4⟩, ⟨c1, c2, c3, c4, c5, c6⟩, hI, hC⟩, hu, hd, hm, hX⟩ := id h
  intro m
  induction m with
  | zero =>
    intro n s c hi hn hs
    obtain ⟨n, rfl⟩ := sc hn
    have hx : nI (H / 8) < nI (T / 8 + s) := nI_lt (by omega) (by omega)
    rw [sl_X3_fetches_37_s, l_X3_fetches_37_s, hm, div8 (by omega), if_pos hx]
    exact ⟨⟨fun _ => trivial, fun h => absurd hx h⟩, rfl⟩
  | succ m ih =>
    intro n s c hi hn hs
    obtain ⟨n, rfl⟩ := sc hn
    have hx : ¬ nI (H / 8) < nI (T / 8 + s) := nI_nlt (by omega) (by omega)
    rw [sl_X3_fetches_37_s, l_X3_fetches_37_s, hm, div8 (by omega), if_neg hx, nI_1]
    obtain ⟨s1, v1⟩ := fetm_l h (nI c) (nI fr) (s := s) ht (by omega) (t + 1 - fr) 100 fr false (by omega) (by omega)
    have e0 : (if false = true then 1 else 0 : Int32) = 0 := rfl
    rw [e0] at s1 v1
    rw [v1, Bool.false_or]
    have hc : cnt (fun s => prs (kIx κ) (T / 8) (t + 1 - fr) fr s) (m + 1) s = (if prs (kIx κ) (T / 8) (t + 1 - fr) fr s = true then 1 else 0) + cnt (fun s => prs (kIx κ) (T / 8) (t + 1 - fr) fr s) m (s + 1) := rfl
    rw [hc]
    by_cases e : prs (kIx κ) (T / 8) (t + 1 - fr) fr s = true
    · have h10 : ¬ (1 : Int32) = 0 := by decide
      rw [if_pos e, if_neg h10, nI_1, if_pos e, ← Nat.add_assoc]
      obtain ⟨s2, v2⟩ := ih n (s + 1) (c + 1) (by omega) (by omega) (by omega)
      exact ⟨⟨fun h => absurd h hx, fun _ => ⟨s1, s2⟩⟩, v2⟩
    · rw [if_neg e, if_pos rfl, Int32.add_zero, if_neg e, Nat.zero_add]
      obtain ⟨s2, v2⟩ := ih n (s + 1) c (by omega) (by omega) (by omega)
      exact ⟨⟨fun h => absurd h hx, fun _ => ⟨s1, s2⟩⟩, v2⟩
theorem ct_more {P : Nat → Bool} {a b : Nat} (h : a ≤ b) (hz : ∀ s, a ≤ s → s < b → P s = false) : fb_ct P b = fb_ct P a := by
  obtain ⟨d, rfl⟩ : ∃ d, b = a + d := ⟨b - a, by omega⟩
  rw [fb_ct_split, fb_ct_zero.mpr (fun k hk => hz (a + k) (by omega) (by omega)), Nat.add_zero]
theorem fet_eq {κ : KS} {μ : MS} {N H T W C : Nat} (h : RU κ μ N H T W C) {fr t : Nat} (hft : fr ≤ t) (ht : t < 64) : sl_X2_fetches_23 κ (v_X2_segmentOf (kTl κ)) (nI fr) (nI t) 100 0 (nI fr) ∧ sl_X3_fetches_37 μ (nI fr) (nI t) 100 0 (mTl μ / 8) ∧ v_J6_bitCount_0f7a4 (l_X2_fetches_23 κ (v_X2_segmentOf (kTl κ)) (nI fr) (nI t) 100 0 (nI fr)).1 = (l_X3_fetches_37 μ (nI fr) (nI t) 100 0 (mTl μ / 8)).1 := by
  obtain ⟨⟨⟨a1, a2, a3, a4⟩, ⟨b1, b2, b3, b4⟩, ⟨c1, c2, c3, c4, c5, c6⟩, hI, hC⟩, hu, hd, hm, hX⟩ := id h
  obtain ⟨s1, M, m1, m2, m3⟩ := fetk_l h (nI fr) ht (t + 1 - fr) 100 fr 0 (by omega) (by omega) (by omega)
  obtain ⟨s2, v2⟩ := feto_l h hft ht (H / 8 + 1 - T / 8) 100 0 0 (by omega) (by omega) (by omega)
  rw [nI_0] at s1 m2 s2 v2
  rw [Nat.add_zero] at s2 v2
  rw [Nat.zero_add] at v2
  rw [a2, b1, seg_n (by omega), div8 (by omega), m2, bc_n M m1, v2]
  refine ⟨s1, s2, congrArg nI ?_⟩
  have hP : ∀ s, prs (kIx κ) (T / 8) (t + 1 - fr) fr s = true → s < 12 ∧ T / 8 + s ≤ H / 8 := fun s hs => by
    obtain ⟨k, k1, k2, k3, k4⟩ := prs_any _ _ hs
    obtain ⟨-, d2⟩ := hX k (by omega)
    rcases d2 with d2 | ⟨p, d3, d4, d5, -⟩
    · exact absurd d2 k3
    · rw [d3, nI_clamp (by omega)] at k4
      omega
  have e1 : fb_ct (fun s => M.testBit s) 12 = fb_ct (fun s => prs (kIx κ) (T / 8) (t + 1 - fr) fr s) 12 := fb_ct_cong (fun s hs => by
    rw [m3 s hs, Nat.zero_testBit, Bool.false_or])
  have hz : ∀ s, 12 ≤ s ∨ H / 8 < T / 8 + s → prs (kIx κ) (T / 8) (t + 1 - fr) fr s = false := fun s hs => by
    cases e : prs (kIx κ) (T / 8) (t + 1 - fr) fr s with
    | false => rfl
    | true => have := hP s e; omega
  rw [e1, cnt_fb, ← ct_more (a := 12) (b := 13) (by omega) (fun s h1 h2 => hz s (Or.inl h1))]
  have e2 : fb_ct (fun r => prs (kIx κ) (T / 8) (t + 1 - fr) fr (0 + r)) (H / 8 + 1 - T / 8) = fb_ct (fun s => prs (kIx κ) (T / 8) (t + 1 - fr) fr s) (H / 8 + 1 - T / 8) := fb_ct_cong (fun s _ => by rw [Nat.zero_add])
  rw [e2, ct_more (P := fun s => prs (kIx κ) (T / 8) (t + 1 - fr) fr s) (a := H / 8 + 1 - T / 8) (b := 13) (by omega) (fun s h1 h2 => hz s (Or.inr (by omega)))]
-- ===== writes =====
def kfail (κ : KS) (w : Nat) : KS := kSUp (kSHd (kSAh (kSWr κ (nI w)) (-1)) (nI w)) 0
def mfail (μ : MS) (w : Nat) : MS := mSDn (mSCh (mSWr μ (nI w)) (-1)) 1
def kdone (κ : KS) (w : Nat) (a : Int32) : KS := kSAh (kSWr κ (nI w)) a
def mdone (μ : MS) (w : Nat) (a : Int32) : MS := mSCh (mSWr μ (nI w)) a
theorem kWA (z : KS) (a b : Int32) : kSWr (kSAh z a) b = kSAh (kSWr z b) a := rfl
theorem mWA (z : MS) (a b : Int32) : mSWr (mSCh z a) b = mSCh (mSWr z b) a := rfl
theorem kfail_k (κ : KS) (w v : Nat) (a x : Int32) : kfail (kSWr (kdone κ w a) x) v = kfail κ v := by
  unfold kfail kdone
  rw [kSWr_s, kWA, kSWr_s, kSAh_s]
theorem kdone_k (κ : KS) (w v : Nat) (a x b : Int32) : kdone (kSWr (kdone κ w a) x) v b = kdone κ v b := by
  unfold kdone
  rw [kSWr_s, kWA, kSWr_s, kSAh_s]
theorem mfail_m (κ : MS) (w v : Nat) (a x : Int32) : mfail (mSWr (mdone κ w a) x) v = mfail κ v := by
  unfold mfail mdone
  rw [mSWr_s, mWA, mSWr_s, mSCh_s]
theorem mdone_m (κ : MS) (w v : Nat) (a x b : Int32) : mdone (mSWr (mdone κ w a) x) v b = mdone κ v b := by
  unfold mdone
  rw [mSWr_s, mWA, mSWr_s, mSCh_s]
theorem write_n {κ : KS} {μ : MS} {w : Nat} (e : kAh κ = mCh μ) (hk : kWr κ = nI w) (hm : mWr μ = nI w) : (v_X2_writeOnce κ = (0, kfail κ w) ∧ v_X3_writes μ = (0, mfail μ w)) ∨ ∃ a, v_X2_writeOnce κ = (1, kdone κ w a) ∧ v_X3_writes μ = (1, mdone μ w a) := by
  have ek : kSWr κ (nI w) = κ := by rw [← hk]; rfl
  have em : mSWr μ (nI w) = μ := by rw [← hm]; rfl
  unfold v_X2_writeOnce v_X3_writes kfail mfail kdone mdone v_X2_losePower
  rw [ek, em, ← e]
  by_cases h0 : kAh κ = 0
  · rw [if_pos h0, if_pos h0]
    refine Or.inl ⟨?_, rfl⟩
    rw [show kWr (kSAh κ (-1)) = nI w from hk]
  · rw [if_neg h0, if_neg h0]
    by_cases h1 : kAh κ ≤ 0
    · refine Or.inr ⟨kAh κ, ?_, ?_⟩
      · rw [if_pos h1]; rfl
      · rw [if_pos h1, Int32.sub_zero]
    · refine Or.inr ⟨kAh κ - 1, ?_, ?_⟩
      · rw [if_neg h1]
      · rw [if_neg h1]
set_option maxHeartbeats 400000 in
theorem sync_l {H : Nat} (hH : H < 2 ^ 31) : ∀ (j n w : Nat) (κ : KS) (μ : MS), w + j = H → j < n → kAh κ = mCh μ → kWr κ = nI w → mWr μ = nI w → mHd μ = nI H →
    sl_X2_writeEntries_10 (nI H) n κ (nI w) ∧ sl_X3_synchronizes_2 n μ 1 ∧ ((∃ a, l_X2_writeEntries_10 (nI H) n κ (nI w) = (1, kdone κ H a) ∧ l_X3_synchronizes_2 n μ 1 = (mdone μ H a, 1)) ∨ ∃ v, w ≤ v ∧ v < H ∧ l_X2_writeEntries_10 (nI H) n κ (nI w) = (0, kfail κ v) ∧ l_X3_synchronizes_2 n μ 1 = (mfail μ v, 0)) := by
  have h10 : ¬ (1 : Int32) = 0 := by decide
  intro j
  induction j with
  | zero =>
    intro n w κ μ hi hn e hk hm hh
    obtain ⟨n, rfl⟩ := sc hn
    have hx : nI H ≤ nI w := nI_le (by omega) (by omega)
    rw [sl_X2_writeEntries_10_s, l_X2_writeEntries_10_s, sl_X3_synchronizes_2_s, l_X3_synchronizes_2_s, hh, hm, if_pos hx, if_pos hx]
    have ew : w = H := by omega
    subst ew
    refine ⟨⟨fun _ => trivial, fun h => absurd hx h⟩, ⟨fun _ => trivial, fun h => absurd hx h⟩, Or.inl ⟨kAh κ, ?_, ?_⟩⟩
    · unfold kdone; rw [← hk]; rfl
    · unfold mdone; rw [← hm, e]; rfl
  | succ j ih =>
    intro n w κ μ hi hn e hk hm hh
    obtain ⟨n, rfl⟩ := sc hn
    have hx : ¬ nI H ≤ nI w := nI_ge (by omega) (by omega)
    rw [sl_X2_writeEntries_10_s, l_X2_writeEntries_10_s, sl_X3_synchronizes_2_s, l_X3_synchronizes_2_s, hh, hm, if_neg hx, if_neg hx, if_neg h10]
    rcases write_n e hk hm with ⟨e1, e2⟩ | ⟨a, e1, e2⟩
    · rw [e1, e2]
      obtain ⟨n, rfl⟩ := sc (show j < n by omega)
      have z0 : mWr (mfail μ w) + (if (0 : Int32) = 0 then 0 else 1 : Int32) = nI w := by
        rw [if_pos rfl, Int32.add_zero]; rfl
      have z1 : mSWr (mfail μ w) (nI w) = mfail μ w := rfl
      show (_ ∧ (_ → (((0 : Int32) = 0 → True) ∧ (¬ (0 : Int32) = 0 → _)))) ∧ (_ ∧ (_ → _ ∧ (_ → sl_X3_synchronizes_2 (n + 1) (mSWr (mfail μ w) (mWr (mfail μ w) + (if (0 : Int32) = 0 then 0 else 1 : Int32))) 0))) ∧ ((∃ a, (if (0 : Int32) = 0 then (0, kfail κ w) else _) = _ ∧ l_X3_synchronizes_2 (n + 1) (mSWr (mfail μ w) (mWr (mfail μ w) + (if (0 : Int32) = 0 then 0 else 1 : Int32))) 0 = _) ∨ ∃ v, w ≤ v ∧ v < H ∧ (if (0 : Int32) = 0 then (0, kfail κ w) else _) = _ ∧ l_X3_synchronizes_2 (n + 1) (mSWr (mfail μ w) (mWr (mfail μ w) + (if (0 : Int32) = 0 then 0 else 1 : Int32))) 0 = _)
      rw [z0, z1, if_pos rfl, sl_X3_synchronizes_2_s, l_X3_synchronizes_2_s, if_neg (show ¬ mHd (mfail μ w) ≤ mWr (mfail μ w) from by rw [show mHd (mfail μ w) = nI H from hh, show mWr (mfail μ w) = nI w from rfl]; exact hx), if_pos rfl]
      exact ⟨⟨fun h => absurd h hx, fun _ => ⟨fun _ => trivial, fun z => absurd rfl z⟩⟩, ⟨fun h => absurd h hx, fun _ => ⟨fun z => absurd z h10, fun _ => ⟨fun _ => trivial, fun _ => ⟨fun _ => trivial, fun z => absurd rfl z⟩⟩⟩⟩, Or.inr ⟨w, Nat.le_refl _, by omega, rfl, rfl⟩⟩
    · rw [e1, e2]
      have z0 : mWr (mdone μ w a) + (if (1 : Int32) = 0 then 0 else 1 : Int32) = nI (w + 1) := by
        rw [if_neg h10]; exact nI_1 w
      obtain ⟨s1, s2, r⟩ := ih n (w + 1) (kSWr (kdone κ w a) (nI (w + 1))) (mSWr (mdone μ w a) (nI (w + 1))) (by omega) (by omega) rfl rfl rfl hh
      show (_ ∧ (_ → (((1 : Int32) = 0 → True) ∧ (¬ (1 : Int32) = 0 → sl_X2_writeEntries_10 (nI H) n (kSWr (kdone κ w a) (nI w + 1)) (nI w + 1))))) ∧ (_ ∧ (_ → _ ∧ (_ → sl_X3_synchronizes_2 n (mSWr (mdone μ w a) (mWr (mdone μ w a) + (if (1 : Int32) = 0 then 0 else 1 : Int32))) 1))) ∧ ((∃ a9, (if (1 : Int32) = 0 then _ else l_X2_writeEntries_10 (nI H) n (kSWr (kdone κ w a) (nI w + 1)) (nI w + 1)) = _ ∧ l_X3_synchronizes_2 n (mSWr (mdone μ w a) (mWr (mdone μ w a) + (if (1 : Int32) = 0 then 0 else 1 : Int32))) 1 = _) ∨ ∃ v, w ≤ v ∧ v < H ∧ (if (1 : Int32) = 0 then _ else l_X2_writeEntries_10 (nI H) n (kSWr (kdone κ w a) (nI w + 1)) (nI w + 1)) = _ ∧ l_X3_synchronizes_2 n (mSWr (mdone μ w a) (mWr (mdone μ w a) + (if (1 : Int32) = 0 then 0 else 1 : Int32))) 1 = _)
      rw [z0, nI_1, if_neg h10]
      refine ⟨⟨fun h => absurd h hx, fun _ => ⟨fun z => absurd z h10, fun _ => s1⟩⟩, ⟨fun h => absurd h hx, fun _ => ⟨fun z => absurd z h10, fun _ => s2⟩⟩, ?_⟩
      rcases r with ⟨a9, r1, r2⟩ | ⟨v, v1, v2, r1, r2⟩
      · rw [kdone_k] at r1
        rw [mdone_m] at r2
        exact Or.inl ⟨a9, r1, r2⟩
      · rw [kfail_k] at r1
        rw [mfail_m] at r2
        exact Or.inr ⟨v, by omega, v2, r1, r2⟩

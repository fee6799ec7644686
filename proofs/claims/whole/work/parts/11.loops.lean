-- ===== rows that run over the 64 keys =====
theorem sc {n j : Nat} (h : j < n) : ∃ m, n = m + 1 := ⟨n - 1, by omega⟩
theorem takeFrom_l (g : Nat → Int32) : ∀ (j n i : Nat) (f : Nat → Int32), i + j = 64 → j < n → (∀ k, k < i → f k = g k) → sl_X0_takeFrom_2 g n f (nI i) ∧ ∀ k, k < 64 → (l_X0_takeFrom_2 g n f (nI i)).1 k = g k := by
  intro j
  induction j with
  | zero =>
    intro n i f hi hn hf
    obtain ⟨n, rfl⟩ := sc hn
    have h64 : (64 : Int32) ≤ nI i := (le64 (by omega)).mpr (by omega)
    rw [sl_X0_takeFrom_2_s, l_X0_takeFrom_2_s, if_pos h64]
    exact ⟨⟨fun _ => trivial, fun h => absurd h64 h⟩, fun k hk => hf k (by omega)⟩
  | succ j ih =>
    intro n i f hi hn hf
    obtain ⟨n, rfl⟩ := sc hn
    have h64 : ¬ (64 : Int32) ≤ nI i := fun e => absurd ((le64 (by omega)).mp e) (by omega)
    rw [sl_X0_takeFrom_2_s, l_X0_takeFrom_2_s, if_neg h64, find_n g (by omega), nI_clamp (by omega), nI_1]
    have h1 := ih n (i + 1) (upd f i (g i)) (by omega) (by omega) (fun k hk => by
      by_cases e : k = i
      · subst e; exact pk_us
      · rw [pk_un e]; exact hf k (by omega))
    exact ⟨⟨fun h => absurd h h64, fun _ => ⟨vp_in_nI (by omega) (by decide), h1.1⟩⟩, h1.2⟩
theorem takeFrom_v (g f : Nat → Int32) : s_X0_takeFrom g f ∧ ∀ k, k < 64 → v_X0_takeFrom g f k = g k := by
  have h := takeFrom_l g 64 100 0 f (by omega) (by omega) (fun k hk => by omega)
  rw [nI_0] at h
  exact ⟨⟨h.1, trivial⟩, h.2⟩
theorem dropBelow_l (t : Int32) (f0 : Nat → Int32) : ∀ (j n i : Nat) (f : Nat → Int32), i + j = 64 → j < n → (∀ k, k < 64 → f k = if k < i then (if t ≤ f0 k then f0 k else -1) else f0 k) → sl_X0_dropBelow_2 t n f (nI i) ∧ ∀ k, k < 64 → (l_X0_dropBelow_2 t n f (nI i)).1 k = if t ≤ f0 k then f0 k else -1 := by
  intro j
  induction j with
  | zero =>
    intro n i f hi hn hf
    obtain ⟨n, rfl⟩ := sc hn
    have h64 : (64 : Int32) ≤ nI i := (le64 (by omega)).mpr (by omega)
    rw [sl_X0_dropBelow_2_s, l_X0_dropBelow_2_s, if_pos h64]
    exact ⟨⟨fun _ => trivial, fun h => absurd h64 h⟩, fun k hk => by
      show f k = _
      rw [hf k hk, if_pos (show k < i by omega)]⟩
  | succ j ih =>
    intro n i f hi hn hf
    obtain ⟨n, rfl⟩ := sc hn
    have h64 : ¬ (64 : Int32) ≤ nI i := fun e => absurd ((le64 (by omega)).mp e) (by omega)
    have hin : vp_in (nI i) 64 := vp_in_nI (by omega) (by decide)
    have hfi : f i = f0 i := by rw [hf i (by omega), if_neg (by omega)]
    rw [sl_X0_dropBelow_2_s, l_X0_dropBelow_2_s, if_neg h64, nI_clamp (by omega), nI_1]
    have h1 := ih n (i + 1) (if t ≤ f i then f else upd f i (-1)) (by omega) (by omega) (fun k hk => by
      by_cases e : k = i
      · subst e
        rw [if_pos (show k < k + 1 by omega)]
        by_cases c : t ≤ f k
        · rw [if_pos c, hfi, if_pos (by rw [← hfi]; exact c)]
        · rw [if_neg c, pk_us, if_neg (by rw [← hfi]; exact c)]
      · have h2 : (if t ≤ f i then f else upd f i (-1)) k = f k := by
          by_cases c : t ≤ f i
          · rw [if_pos c]
          · rw [if_neg c, pk_un e]
        rw [h2, hf k hk]
        by_cases e2 : k < i
        · rw [if_pos e2, if_pos (show k < i + 1 by omega)]
        · rw [if_neg e2, if_neg (show ¬ k < i + 1 by omega)])
    exact ⟨⟨fun h => absurd h h64, fun _ => ⟨hin, ⟨⟨fun _ => trivial, fun _ => ⟨hin, trivial⟩⟩, h1.1⟩⟩⟩, h1.2⟩
theorem dropBelow_v (f : Nat → Int32) (t : Int32) : s_X0_dropBelow f t ∧ ∀ k, k < 64 → v_X0_dropBelow f t k = if t ≤ f k then f k else -1 := by
  have h := dropBelow_l t f 64 100 0 f (by omega) (by omega) (fun k hk => by rw [if_neg (by omega)])
  rw [nI_0] at h
  exact ⟨⟨h.1, trivial⟩, h.2⟩
/-- the reference's first row of recovers -/
theorem reco2_l (μ : MS) : ∀ (j n i : Nat) (f : Nat → Int32), i + j = 64 → j < n → (∀ k, k < i → f k = if mTl μ ≤ mKp μ k then mKp μ k else -1) → sl_X3_recovers_2 n (mSTr μ f) (nI i) ∧ ∃ f', (l_X3_recovers_2 n (mSTr μ f) (nI i)).1 = mSTr μ f' ∧ ∀ k, k < 64 → f' k = if mTl μ ≤ mKp μ k then mKp μ k else -1 := by
  intro j
  induction j with
  | zero =>
    intro n i f hi hn hf
    obtain ⟨n, rfl⟩ := sc hn
    have h64 : (64 : Int32) ≤ nI i := (le64 (by omega)).mpr (by omega)
    rw [sl_X3_recovers_2_s, l_X3_recovers_2_s, if_pos h64]
    exact ⟨⟨fun _ => trivial, fun h => absurd h64 h⟩, f, rfl, fun k hk => hf k (by omega)⟩
  | succ j ih =>
    intro n i f hi hn hf
    obtain ⟨n, rfl⟩ := sc hn
    have h64 : ¬ (64 : Int32) ≤ nI i := fun e => absurd ((le64 (by omega)).mp e) (by omega)
    have hin : vp_in (nI i) 64 := vp_in_nI (by omega) (by decide)
    rw [sl_X3_recovers_2_s, l_X3_recovers_2_s, if_neg h64, nI_clamp (by omega), nI_1]
    simp only [mTr_Tr, mTl_Tr, mKp_Tr, mSTr_s]
    have h1 := ih n (i + 1) (upd f i (if mTl μ ≤ mKp μ i then mKp μ i else -1)) (by omega) (by omega) (fun k hk => by
      by_cases e : k = i
      · subst e; exact pk_us
      · rw [pk_un e]; exact hf k (by omega))
    exact ⟨⟨fun h => absurd h h64, fun _ => ⟨hin, ⟨fun _ => ⟨hin, trivial⟩, fun _ => trivial⟩, hin, h1.1⟩⟩, h1.2⟩
/-- a copy of the index into what is kept -/
theorem ckpt_l (μ : MS) : ∀ (j n i : Nat) (f : Nat → Int32), i + j = 64 → j < n → (∀ k, k < i → f k = mIx μ k) → sl_X3_checkpoint_38 n (mSKp μ f) (nI i) ∧ ∃ f', (l_X3_checkpoint_38 n (mSKp μ f) (nI i)).1 = mSKp μ f' ∧ ∀ k, k < 64 → f' k = mIx μ k := by
  intro j
  induction j with
  | zero =>
    intro n i f hi hn hf
    obtain ⟨n, rfl⟩ := sc hn
    have h64 : (64 : Int32) ≤ nI i := (le64 (by omega)).mpr (by omega)
    rw [sl_X3_checkpoint_38_s, l_X3_checkpoint_38_s, if_pos h64]
    exact ⟨⟨fun _ => trivial, fun h => absurd h64 h⟩, f, rfl, fun k hk => hf k (by omega)⟩
  | succ j ih =>
    intro n i f hi hn hf
    obtain ⟨n, rfl⟩ := sc hn
    have h64 : ¬ (64 : Int32) ≤ nI i := fun e => absurd ((le64 (by omega)).mp e) (by omega)
    have hin : vp_in (nI i) 64 := vp_in_nI (by omega) (by decide)
    rw [sl_X3_checkpoint_38_s, l_X3_checkpoint_38_s, if_neg h64, nI_clamp (by omega), nI_1]
    simp only [mIx_Kp, mKp_Kp, mSKp_s]
    have h1 := ih n (i + 1) (upd f i (mIx μ i)) (by omega) (by omega) (fun k hk => by
      by_cases e : k = i
      · subst e; exact pk_us
      · rw [pk_un e]; exact hf k (by omega))
    exact ⟨⟨fun h => absurd h h64, fun _ => ⟨hin, hin, h1.1⟩⟩, h1.2⟩
/-- a copy of the trial row into the index -/
theorem start_l (y : Int32) (μ : MS) : ∀ (j n i : Nat) (f : Nat → Int32), i + j = 64 → j < n → (∀ k, k < i → f k = mTr μ k) → sl_X3_start_21 y n (mSIx μ f) (nI i) ∧ ∃ f', (l_X3_start_21 y n (mSIx μ f) (nI i)).1 = mSIx μ f' ∧ ∀ k, k < 64 → f' k = mTr μ k := by
  intro j
  induction j with
  | zero =>
    intro n i f hi hn hf
    obtain ⟨n, rfl⟩ := sc hn
    have h64 : (64 : Int32) ≤ nI i := (le64 (by omega)).mpr (by omega)
    rw [sl_X3_start_21_s, l_X3_start_21_s, if_pos h64]
    exact ⟨⟨fun _ => trivial, fun h => absurd h64 h⟩, f, rfl, fun k hk => hf k (by omega)⟩
  | succ j ih =>
    intro n i f hi hn hf
    obtain ⟨n, rfl⟩ := sc hn
    have h64 : ¬ (64 : Int32) ≤ nI i := fun e => absurd ((le64 (by omega)).mp e) (by omega)
    have hin : vp_in (nI i) 64 := vp_in_nI (by omega) (by decide)
    rw [sl_X3_start_21_s, l_X3_start_21_s, if_neg h64, nI_clamp (by omega), nI_1]
    simp only [mIx_Ix, mTr_Ix, mSIx_s]
    have h1 := ih n (i + 1) (upd f i (mTr μ i)) (by omega) (by omega) (fun k hk => by
      by_cases e : k = i
      · subst e; exact pk_us
      · rw [pk_un e]; exact hf k (by omega))
    exact ⟨⟨fun h => absurd h h64, fun _ => ⟨hin, hin, h1.1⟩⟩, h1.2⟩
/-- how many keys an index has: both sides -/
theorem size_l (f : Nat → Int32) (μ : MS) (hf : ∀ k, k < 64 → f k = mTr μ k ∧ (f k = -1 ∨ 0 ≤ f k)) : ∀ (j n i : Nat) (x : Int32), i + j = 64 → j < n → sl_X0_size_4 f n x (nI i) ∧ sl_X3_recovers_117 μ n x (nI i) ∧ (l_X0_size_4 f n x (nI i)).1 = (l_X3_recovers_117 μ n x (nI i)).1 := by
  intro j
  induction j with
  | zero =>
    intro n i x hi hn
    obtain ⟨n, rfl⟩ := sc hn
    have h64 : (64 : Int32) ≤ nI i := (le64 (by omega)).mpr (by omega)
    rw [sl_X0_size_4_s, l_X0_size_4_s, sl_X3_recovers_117_s, l_X3_recovers_117_s, if_pos h64, if_pos h64]
    exact ⟨⟨fun _ => trivial, fun h => absurd h64 h⟩, ⟨fun _ => trivial, fun h => absurd h64 h⟩, rfl⟩
  | succ j ih =>
    intro n i x hi hn
    obtain ⟨n, rfl⟩ := sc hn
    have h64 : ¬ (64 : Int32) ≤ nI i := fun e => absurd ((le64 (by omega)).mp e) (by omega)
    have hin : vp_in (nI i) 64 := vp_in_nI (by omega) (by decide)
    rw [sl_X0_size_4_s, l_X0_size_4_s, sl_X3_recovers_117_s, l_X3_recovers_117_s, if_neg h64, if_neg h64, nI_clamp (by omega), nI_1]
    obtain ⟨e1, e2⟩ := hf i (by omega)
    have hx : (if f i = -1 then x else x + 1 : Int32) = x + (if mTr μ i < 0 then 0 else 1 : Int32) := by
      rw [← e1]
      rcases e2 with e2 | e2
      · rw [e2, if_pos rfl, if_pos n_m1lt, Int32.add_zero]
      · rw [if_neg (n_pos1 e2), if_neg (n_lt e2)]
    rw [hx]
    have h1 := ih n (i + 1) (x + (if mTr μ i < 0 then 0 else 1 : Int32)) (by omega) (by omega)
    exact ⟨⟨fun h => absurd h h64, fun _ => ⟨hin, h1.1⟩⟩, ⟨fun h => absurd h h64, fun _ => ⟨hin, h1.2.1⟩⟩, h1.2.2⟩
-- ===== recovery =====
/-- one entry more gone through -/
theorem XV.step {lk lv ky vl f g : Nat → Int32} {T W i : Nat} (hI : IV lk lv ky vl T W) (hT : T ≤ i) (hi : i < W) (h : XV lk lv f g T i) {q : Nat} (hq : q < 64) (hk : lk (i % 96) = nI q) :
    XV lk lv (upd f q (if lv (i % 96) = -1 then -1 else nI i)) (upd g q (if 0 ≤ vl (i % 128) then nI i else -1)) T (i + 1) := by
  obtain ⟨-, e3, e4⟩ := hI i hT hi
  intro k hk2
  by_cases e : k = q
  · subst e
    rw [pk_us, pk_us, ← e3]
    rcases e4 with e4 | e4
    · rw [e4, if_pos rfl, if_neg n_nle1]
      exact ⟨rfl, Or.inl rfl⟩
    · rw [if_neg (n_pos1 e4), if_pos e4]
      exact ⟨rfl, Or.inr ⟨i, rfl, hT, by omega, hk, e4⟩⟩
  · rw [pk_un e, pk_un e]
    obtain ⟨e1, e2⟩ := h k hk2
    refine ⟨e1, ?_⟩
    rcases e2 with e2 | ⟨p, h1, h2, h3, h4⟩
    · exact Or.inl e2
    · exact Or.inr ⟨p, h1, h2, by omega, h4⟩
theorem rec66 {μ : MS} {i q : Nat} (hi : i < 2 ^ 31) (hk : mKy μ (i % 128) = nI q) (hq : q < 64) (g : Nat → Int32) : mSTr (mSTr μ g) (upd (mTr (mSTr μ g)) ((mKy (mSTr μ g)) (nI i - nI i / 128 * 128).toNatClampNeg).toNatClampNeg (if 0 ≤ ((mVl (mSTr μ g)) (nI i - nI i / 128 * 128).toNatClampNeg) then nI i else (-1) : Int32)) = mSTr μ (upd g q (if 0 ≤ mVl μ (i % 128) then nI i else -1)) := by
  have h9 : i % 128 < 128 := Nat.mod_lt _ (by decide)
  show mSTr μ (upd g (mKy μ (nI i - nI i / 128 * 128).toNatClampNeg).toNatClampNeg (if 0 ≤ mVl μ (nI i - nI i / 128 * 128).toNatClampNeg then nI i else -1)) = _
  rw [rem128 hi, nI_clamp (by omega), hk, nI_clamp (by omega)]
theorem reco_i_l (κ : KS) (μ : MS) {T W : Nat} (hI : IV (kLk κ) (kLv κ) (mKy μ) (mVl μ) T W) (hW : W < 2 ^ 31) (hkw : kWr κ = nI W) (hmw : mWr μ = nI W) : ∀ (j n i : Nat) (f g : Nat → Int32), i + j = W → j < n → T ≤ i → XV (kLk κ) (kLv κ) f g T i →
    sl_X2_recover_i_28 n (kSIx κ f) (nI i) ∧ sl_X3_recovers_66 n (mSTr μ g) (nI i) ∧ ∃ f' g', (l_X2_recover_i_28 n (kSIx κ f) (nI i)).1 = kSIx κ f' ∧ (l_X3_recovers_66 n (mSTr μ g) (nI i)).1 = mSTr μ g' ∧ XV (kLk κ) (kLv κ) f' g' T W := by
  intro j
  induction j with
  | zero =>
    intro n i f g hi hn hT hX
    obtain ⟨n, rfl⟩ := sc hn
    have hx : nI W ≤ nI i := nI_le (by omega) (by omega)
    rw [sl_X2_recover_i_28_s, l_X2_recover_i_28_s, sl_X3_recovers_66_s, l_X3_recovers_66_s]
    simp only [kWr_Ix, mWr_Tr, hkw, hmw]
    rw [if_pos hx, if_pos hx]
    have e : i = W := by omega
    subst e
    exact ⟨⟨fun _ => trivial, fun h => absurd hx h⟩, ⟨fun _ => trivial, fun h => absurd hx h⟩, f, g, rfl, rfl, hX⟩
  | succ j ih =>
    intro n i f g hi hn hT hX
    obtain ⟨n, rfl⟩ := sc hn
    have hi31 : i < 2 ^ 31 := by omega
    have hx : ¬ nI W ≤ nI i := nI_ge (by omega) hW
    obtain ⟨⟨q, hq, k1, k2⟩, e3, e4⟩ := hI i hT (by omega)
    have h9 : i % 128 < 128 := Nat.mod_lt _ (by decide)
    have ef : v_X2_follow_i (kSIx κ f) (nI i) = kSIx κ (upd f q (if kLv κ (i % 96) = -1 then -1 else nI i)) := follow_i_n (κ := kSIx κ f) hi31 hq k1
    rw [sl_X2_recover_i_28_s, l_X2_recover_i_28_s, sl_X3_recovers_66_s, l_X3_recovers_66_s, ef, rec66 hi31 k2 hq, rem128 hi31]
    rw [show kWr (kSIx κ f) = nI W from hkw, show mWr (mSTr μ g) = nI W from hmw, if_neg hx, if_neg hx, nI_clamp (by omega), nI_1]
    have h1 := ih n (i + 1) _ _ (by omega) (by omega) (by omega) (XV.step hI hT (by omega) hX hq k1)
    refine ⟨⟨fun h => absurd h hx, fun _ => ⟨⟨valueAt_s _ _, keyAt_s _ _, trivial⟩, h1.1⟩⟩, ⟨fun h => absurd h hx, fun _ => ⟨in128, in128, ?_, h1.2.1⟩⟩, h1.2.2⟩
    show vp_in (mKy μ (i % 128)) 64
    rw [k2]
    exact vp_in_nI hq (by decide)
/-- what a start would give: both sides -/
theorem reco_i {κ : KS} {μ : MS} {N H T W C : Nat} (h : RC κ μ N H T W C) : s_X2_recover_i κ ∧ s_X3_recovers μ ∧ s_X0_size (kIx (v_X2_recover_i κ)) ∧ v_X0_size (kIx (v_X2_recover_i κ)) = (v_X3_recovers μ).1 ∧ ∃ f g, v_X2_recover_i κ = kSIx κ f ∧ (v_X3_recovers μ).2 = mSTr μ g ∧ XV (kLk κ) (kLv κ) f g T W := by
  obtain ⟨⟨a1, a2, a3, a4⟩, ⟨b1, b2, b3, b4⟩, ⟨c1, c2, c3, c4, c5, c6⟩, hI, hC⟩ := h
  have hI2 : IV (kLk κ) (kLv κ) (mKy μ) (mVl μ) T W := fun p h1 h2 => hI p h1 (by omega)
  obtain ⟨sT, vT⟩ := takeFrom_v (kCi κ) (kIx κ)
  obtain ⟨sD, vD⟩ := dropBelow_v (v_X0_takeFrom (kCi κ) (kIx κ)) (kTl κ)
  have r2 := reco2_l μ 64 100 0 (mTr μ) (by omega) (by omega) (fun k hk => by omega)
  rw [nI_0, mSTr_i] at r2
  obtain ⟨s2, g, e2, v2⟩ := r2
  obtain ⟨i0, hi0⟩ : ∃ i0, i0 = if C < T then T else C := ⟨_, rfl⟩
  have hiT : T ≤ i0 := by rw [hi0]; split <;> omega
  have hiW : i0 ≤ W := by rw [hi0]; split <;> omega
  have hiC : C ≤ i0 := by rw [hi0]; split <;> omega
  have ek : (if kCt κ < kTl κ then kTl κ else kCt κ : Int32) = nI i0 := by
    rw [a2, a4, hi0]
    by_cases c : C < T
    · rw [if_pos c, if_pos (nI_lt c (by omega))]
    · rw [if_neg c, if_neg (nI_nlt (by omega) (by omega))]
  have em : (if mCp μ ≤ mTl μ then mTl μ else mCp μ : Int32) = nI i0 := by
    rw [b1, b3, hi0]
    by_cases c : C < T
    · rw [if_pos c, if_pos (nI_le (by omega) (by omega))]
    · rw [if_neg c]
      by_cases c2 : C = T
      · subst c2
        rw [if_pos (nI_le (Nat.le_refl _) (by omega))]
      · rw [if_neg (nI_ge (by omega) (by omega))]
  have hX : XV (kLk κ) (kLv κ) (v_X0_dropBelow (v_X0_takeFrom (kCi κ) (kIx κ)) (kTl κ)) g T i0 := by
    intro k hk
    obtain ⟨d1, d2⟩ := hC k hk
    rw [vD k hk, vT k hk, v2 k hk, a2, b1, ← d1]
    refine ⟨rfl, ?_⟩
    by_cases c : nI T ≤ kCi κ k
    · rw [if_pos c]
      rcases d2 with d2 | ⟨p, p1, p2, p3⟩
      · exact Or.inl d2
      · have hTp : T ≤ p := by
          rw [p1] at c
          exact (nI_leI (by omega) (by omega)).mp c
        exact Or.inr ⟨p, p1, hTp, by omega, (p3 hTp).1, (p3 hTp).2⟩
    · rw [if_neg c]
      exact Or.inl rfl
  obtain ⟨sL, sM, f', g', el, em2, hX2⟩ := reco_i_l κ μ hI2 (by omega) a3 b2 (W - i0) 100 i0 _ _ (by omega) (by omega) hiT hX
  have hv : v_X2_recover_i κ = kSIx κ f' := by
    unfold v_X2_recover_i
    rw [ek]
    exact el
  have hm0 : (if mCp (mSTr μ g) ≤ mTl (mSTr μ g) then mTl (mSTr μ g) else mCp (mSTr μ g) : Int32) = nI i0 := em
  have hm : v_X3_recovers μ = ((l_X3_recovers_117 (mSTr μ g') 100 0 0).1, mSTr μ g') := by
    unfold v_X3_recovers
    rw [e2, hm0, em2]
  have hsz := size_l f' (mSTr μ g') (fun k hk => by
    obtain ⟨d1, d2⟩ := hX2 k hk
    refine ⟨d1, ?_⟩
    rcases d2 with d2 | ⟨p, p1, p2, p3, -⟩
    · exact Or.inl d2
    · rw [p1]; exact Or.inr (nI_pos' (by omega))) 64 100 0 0 (by omega) (by omega)
  rw [nI_0] at hsz
  rw [hv, hm]
  refine ⟨⟨sT, sD, ?_, trivial⟩, ⟨s2, ?_, ?_, trivial⟩, ⟨hsz.1, trivial⟩, hsz.2.2, f', g', rfl, rfl, hX2⟩
  · rw [ek]; exact sL
  · rw [e2, hm0]; exact sM
  · rw [e2, hm0, em2]; exact hsz.2.1
theorem reco_t_l (κ : KS) (μ : MS) {T W : Nat} (hI : IV (kLk κ) (kLv κ) (mKy μ) (mVl μ) T W) (hW : W < 2 ^ 31) (hkw : kWr κ = nI W) (hmw : mWr μ = nI W) : ∀ (j n i : Nat) (f g : Nat → Int32), i + j = W → j < n → T ≤ i → XV (kLk κ) (kLv κ) f g T i →
    sl_X2_recover_t_28 n (kSTr κ f) (nI i) ∧ sl_X3_recovers_66 n (mSTr μ g) (nI i) ∧ ∃ f' g', (l_X2_recover_t_28 n (kSTr κ f) (nI i)).1 = kSTr κ f' ∧ (l_X3_recovers_66 n (mSTr μ g) (nI i)).1 = mSTr μ g' ∧ XV (kLk κ) (kLv κ) f' g' T W := by
  intro j
  induction j with
  | zero =>
    intro n i f g hi hn hT hX
    obtain ⟨n, rfl⟩ := sc hn
    have hx : nI W ≤ nI i := nI_le (by omega) (by omega)
    rw [sl_X2_recover_t_28_s, l_X2_recover_t_28_s, sl_X3_recovers_66_s, l_X3_recovers_66_s]
    simp only [kWr_Tr, mWr_Tr, hkw, hmw]
    rw [if_pos hx, if_pos hx]
    have e : i = W := by omega
    subst e
    exact ⟨⟨fun _ => trivial, fun h => absurd hx h⟩, ⟨fun _ => trivial, fun h => absurd hx h⟩, f, g, rfl, rfl, hX⟩
  | succ j ih =>
    intro n i f g hi hn hT hX
    obtain ⟨n, rfl⟩ := sc hn
    have hi31 : i < 2 ^ 31 := by omega
    have hx : ¬ nI W ≤ nI i := nI_ge (by omega) hW
    obtain ⟨⟨q, hq, k1, k2⟩, e3, e4⟩ := hI i hT (by omega)
    have h9 : i % 128 < 128 := Nat.mod_lt _ (by decide)
    have ef : v_X2_follow_t (kSTr κ f) (nI i) = kSTr κ (upd f q (if kLv κ (i % 96) = -1 then -1 else nI i)) := follow_t_n (κ := kSTr κ f) hi31 hq k1
    rw [sl_X2_recover_t_28_s, l_X2_recover_t_28_s, sl_X3_recovers_66_s, l_X3_recovers_66_s, ef, rec66 hi31 k2 hq, rem128 hi31]
    rw [show kWr (kSTr κ f) = nI W from hkw, show mWr (mSTr μ g) = nI W from hmw, if_neg hx, if_neg hx, nI_clamp (by omega), nI_1]
    have h1 := ih n (i + 1) _ _ (by omega) (by omega) (by omega) (XV.step hI hT (by omega) hX hq k1)
    refine ⟨⟨fun h => absurd h hx, fun _ => ⟨⟨valueAt_s _ _, keyAt_s _ _, trivial⟩, h1.1⟩⟩, ⟨fun h => absurd h hx, fun _ => ⟨in128, in128, ?_, h1.2.1⟩⟩, h1.2.2⟩
    show vp_in (mKy μ (i % 128)) 64
    rw [k2]
    exact vp_in_nI hq (by decide)
/-- what a start would give: both sides -/
theorem reco_t {κ : KS} {μ : MS} {N H T W C : Nat} (h : RC κ μ N H T W C) : s_X2_recover_t κ ∧ s_X3_recovers μ ∧ s_X0_size (kTr (v_X2_recover_t κ)) ∧ v_X0_size (kTr (v_X2_recover_t κ)) = (v_X3_recovers μ).1 ∧ ∃ f g, v_X2_recover_t κ = kSTr κ f ∧ (v_X3_recovers μ).2 = mSTr μ g ∧ XV (kLk κ) (kLv κ) f g T W := by
  obtain ⟨⟨a1, a2, a3, a4⟩, ⟨b1, b2, b3, b4⟩, ⟨c1, c2, c3, c4, c5, c6⟩, hI, hC⟩ := h
  have hI2 : IV (kLk κ) (kLv κ) (mKy μ) (mVl μ) T W := fun p h1 h2 => hI p h1 (by omega)
  obtain ⟨sT, vT⟩ := takeFrom_v (kCi κ) (kTr κ)
  obtain ⟨sD, vD⟩ := dropBelow_v (v_X0_takeFrom (kCi κ) (kTr κ)) (kTl κ)
  have r2 := reco2_l μ 64 100 0 (mTr μ) (by omega) (by omega) (fun k hk => by omega)
  rw [nI_0, mSTr_i] at r2
  obtain ⟨s2, g, e2, v2⟩ := r2
  obtain ⟨i0, hi0⟩ : ∃ i0, i0 = if C < T then T else C := ⟨_, rfl⟩
  have hiT : T ≤ i0 := by rw [hi0]; split <;> omega
  have hiW : i0 ≤ W := by rw [hi0]; split <;> omega
  have hiC : C ≤ i0 := by rw [hi0]; split <;> omega
  have ek : (if kCt κ < kTl κ then kTl κ else kCt κ : Int32) = nI i0 := by
    rw [a2, a4, hi0]
    by_cases c : C < T
    · rw [if_pos c, if_pos (nI_lt c (by omega))]
    · rw [if_neg c, if_neg (nI_nlt (by omega) (by omega))]
  have em : (if mCp μ ≤ mTl μ then mTl μ else mCp μ : Int32) = nI i0 := by
    rw [b1, b3, hi0]
    by_cases c : C < T
    · rw [if_pos c, if_pos (nI_le (by omega) (by omega))]
    · rw [if_neg c]
      by_cases c2 : C = T
      · subst c2
        rw [if_pos (nI_le (Nat.le_refl _) (by omega))]
      · rw [if_neg (nI_ge (by omega) (by omega))]
  have hX : XV (kLk κ) (kLv κ) (v_X0_dropBelow (v_X0_takeFrom (kCi κ) (kTr κ)) (kTl κ)) g T i0 := by
    intro k hk
    obtain ⟨d1, d2⟩ := hC k hk
    rw [vD k hk, vT k hk, v2 k hk, a2, b1, ← d1]
    refine ⟨rfl, ?_⟩
    by_cases c : nI T ≤ kCi κ k
    · rw [if_pos c]
      rcases d2 with d2 | ⟨p, p1, p2, p3⟩
      · exact Or.inl d2
      · have hTp : T ≤ p := by
          rw [p1] at c
          exact (nI_leI (by omega) (by omega)).mp c
        exact Or.inr ⟨p, p1, hTp, by omega, (p3 hTp).1, (p3 hTp).2⟩
    · rw [if_neg c]
      exact Or.inl rfl
  obtain ⟨sL, sM, f', g', el, em2, hX2⟩ := reco_t_l κ μ hI2 (by omega) a3 b2 (W - i0) 100 i0 _ _ (by omega) (by omega) hiT hX
  have hv : v_X2_recover_t κ = kSTr κ f' := by
    unfold v_X2_recover_t
    rw [ek]
    exact el
  have hm0 : (if mCp (mSTr μ g) ≤ mTl (mSTr μ g) then mTl (mSTr μ g) else mCp (mSTr μ g) : Int32) = nI i0 := em
  have hm : v_X3_recovers μ = ((l_X3_recovers_117 (mSTr μ g') 100 0 0).1, mSTr μ g') := by
    unfold v_X3_recovers
    rw [e2, hm0, em2]
  have hsz := size_l f' (mSTr μ g') (fun k hk => by
    obtain ⟨d1, d2⟩ := hX2 k hk
    refine ⟨d1, ?_⟩
    rcases d2 with d2 | ⟨p, p1, p2, p3, -⟩
    · exact Or.inl d2
    · rw [p1]; exact Or.inr (nI_pos' (by omega))) 64 100 0 0 (by omega) (by omega)
  rw [nI_0] at hsz
  rw [hv, hm]
  refine ⟨⟨sT, sD, ?_, trivial⟩, ⟨s2, ?_, ?_, trivial⟩, ⟨hsz.1, trivial⟩, hsz.2.2, f', g', rfl, rfl, hX2⟩
  · rw [ek]; exact sL
  · rw [e2, hm0]; exact sM
  · rw [e2, hm0, em2]; exact hsz.2.1


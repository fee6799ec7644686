-- ===== what a write, a checkpoint, a crash, a start and the tail's move make of the two states =====
theorem RU.done {κ : KS} {μ : MS} {N H T W C : Nat} (h : RU κ μ N H T W C) (a : Int32) : RU (kdone κ H a) (mdone μ H a) N H T H C := by
  obtain ⟨⟨⟨a1, a2, a3, a4⟩, ⟨b1, b2, b3, b4⟩, ⟨c1, c2, c3, c4, c5, c6⟩, hI, hC⟩, hu, hd, hm, hX⟩ := h
  exact ⟨⟨⟨a1, a2, rfl, a4⟩, ⟨b1, rfl, b3, rfl⟩, ⟨by omega, Nat.le_refl _, by omega, c4, c5, c6⟩, hI, hC⟩, hu, hd, hm, hX⟩
theorem RU.fail {κ : KS} {μ : MS} {N H T W C v : Nat} (h : RU κ μ N H T W C) (h1 : W ≤ v) (h2 : v ≤ H) : RD (kfail κ v) (mfail μ v) N v T v C := by
  obtain ⟨⟨⟨a1, a2, a3, a4⟩, ⟨b1, b2, b3, b4⟩, ⟨c1, c2, c3, c4, c5, c6⟩, hI, hC⟩, hu, hd, hm, hX⟩ := h
  exact ⟨⟨⟨rfl, a2, rfl, a4⟩, ⟨b1, rfl, b3, rfl⟩, ⟨by omega, Nat.le_refl _, by omega, by omega, by omega, c6⟩, fun p p1 p2 => hI p p1 (by omega), hC⟩, rfl, rfl, rfl⟩
/-- all entries are written, or power fails -/
theorem sync_v {κ : KS} {μ : MS} {N H T W C : Nat} (h : RU κ μ N H T W C) : s_X2_writeEntries κ ∧ s_X3_synchronizes μ ∧ ((∃ a, v_X2_writeEntries κ = (1, kdone κ H a) ∧ v_X3_synchronizes μ = (1, mdone μ H a)) ∨ ∃ v, W ≤ v ∧ v < H ∧ v_X2_writeEntries κ = (0, kfail κ v) ∧ v_X3_synchronizes μ = (0, mfail μ v)) := by
  obtain ⟨⟨⟨a1, a2, a3, a4⟩, ⟨b1, b2, b3, b4⟩, ⟨c1, c2, c3, c4, c5, c6⟩, hI, hC⟩, hu, hd, hm, hX⟩ := h
  obtain ⟨s1, s2, r⟩ := sync_l (H := H) (by omega) (H - W) 100 W κ μ (by omega) (by omega) b4 a3 b2 hm
  unfold s_X2_writeEntries s_X3_synchronizes v_X2_writeEntries v_X3_synchronizes
  rw [a1, a3]
  refine ⟨⟨s1, trivial⟩, ⟨s2, trivial⟩, ?_⟩
  rcases r with ⟨a, r1, r2⟩ | ⟨v, v1, v2, r1, r2⟩
  · exact Or.inl ⟨a, r1, by rw [r2]⟩
  · exact Or.inr ⟨v, v1, v2, r1, by rw [r2]⟩
theorem write_v {κ : KS} {μ : MS} {N H T W C : Nat} (h : RU κ μ N H T W C) : (v_X2_writeOnce κ = (0, kfail κ W) ∧ v_X3_writes μ = (0, mfail μ W)) ∨ ∃ a, v_X2_writeOnce κ = (1, kdone κ W a) ∧ v_X3_writes μ = (1, mdone μ W a) := by
  obtain ⟨⟨⟨a1, a2, a3, a4⟩, ⟨b1, b2, b3, b4⟩, -⟩, -⟩ := h
  exact write_n b4 a3 b2
theorem RU.tail {κ : KS} {μ : MS} {N H T C e : Nat} (h : RU κ μ N H T H C) (he : T + e ≤ H) (hp : ∀ k, k < 64 → kIx κ k = -1 ∨ ∃ p, kIx κ k = nI p ∧ T + e ≤ p ∧ p < 2 ^ 31) : RU (kSTl κ (nI (T + e))) (mSTl μ (nI (T + e))) N H (T + e) H C := by
  obtain ⟨⟨⟨a1, a2, a3, a4⟩, ⟨b1, b2, b3, b4⟩, ⟨c1, c2, c3, c4, c5, c6⟩, hI, hC⟩, hu, hd, hm, hX⟩ := h
  refine ⟨⟨⟨a1, rfl, a3, a4⟩, ⟨rfl, b2, b3, b4⟩, ⟨he, c2, c3, by omega, c5, c6⟩, fun p p1 p2 => hI p (by omega) p2, fun k hk => ?_⟩, hu, hd, hm, fun k hk => ?_⟩
  · obtain ⟨d1, d2⟩ := hC k hk
    refine ⟨d1, ?_⟩
    rcases d2 with d2 | ⟨p, d3, d4, d5⟩
    · exact Or.inl d2
    · exact Or.inr ⟨p, d3, d4, fun z => d5 (by omega)⟩
  · obtain ⟨d1, d2⟩ := hX k hk
    refine ⟨d1, ?_⟩
    rcases d2 with d2 | ⟨p, d3, d4, d5, d6⟩
    · exact Or.inl d2
    · refine Or.inr ⟨p, d3, ?_, d5, d6⟩
      rcases hp k hk with z | ⟨p2, z1, z2, z3⟩
      · have z : kIx κ k = -1 := z
        have d3 : kIx κ k = nI p := d3
        rw [d3] at z
        exact absurd z (n_ne1 (by omega))
      · have d3 : kIx κ k = nI p := d3
        rw [d3] at z1
        have := (nI_eq (by omega) z3).mp z1
        omega
theorem RU.ckpt {κ : KS} {μ : MS} {N H T C : Nat} (h : RU κ μ N H T H C) {f g : Nat → Int32} (hf : ∀ k, k < 64 → f k = kIx κ k) (hg : ∀ k, k < 64 → g k = mIx μ k) : RU (kSCt (kSCi κ f) (nI H)) (mSCp (mSKp μ g) (nI H)) N H T H H := by
  obtain ⟨⟨⟨a1, a2, a3, a4⟩, ⟨b1, b2, b3, b4⟩, ⟨c1, c2, c3, c4, c5, c6⟩, hI, hC⟩, hu, hd, hm, hX⟩ := h
  refine ⟨⟨⟨a1, a2, a3, rfl⟩, ⟨b1, b2, rfl, b4⟩, ⟨c1, c2, Nat.le_refl _, c4, c5, c6⟩, hI, fun k hk => ?_⟩, hu, hd, hm, hX⟩
  show f k = g k ∧ (f k = -1 ∨ ∃ p, f k = nI p ∧ p < H ∧ (T ≤ p → kLk κ (p % 96) = nI k ∧ 0 ≤ kLv κ (p % 96)))
  rw [hf k hk, hg k hk]
  obtain ⟨d1, d2⟩ := hX k hk
  refine ⟨d1, ?_⟩
  rcases d2 with d2 | ⟨p, d3, d4, d5, d6⟩
  · exact Or.inl d2
  · exact Or.inr ⟨p, d3, d5, fun _ => d6⟩
theorem RU.crash {κ : KS} {μ : MS} {N H T W C : Nat} (h : RU κ μ N H T W C) : RD (v_X2_losePower κ) (mSDn μ 1) N W T W C := by
  obtain ⟨⟨⟨a1, a2, a3, a4⟩, ⟨b1, b2, b3, b4⟩, ⟨c1, c2, c3, c4, c5, c6⟩, hI, hC⟩, hu, hd, hm, hX⟩ := h
  exact ⟨⟨⟨a3, a2, a3, a4⟩, ⟨b1, b2, b3, b4⟩, ⟨c1, Nat.le_refl _, c3, by omega, by omega, c6⟩, fun p p1 p2 => hI p p1 (by omega), hC⟩, rfl, rfl, rfl⟩
theorem RD.start {κ : KS} {μ : MS} {N H T W C : Nat} (h : RD κ μ N H T W C) {f g tr : Nat → Int32} (hX : XV (kLk κ) (kLv κ) f g T W) : RU (kSUp (kSIx κ f) 1) (mSDn (mSHd (mSIx (mSTr μ tr) g) (nI W)) 0) N W T W C := by
  obtain ⟨⟨⟨a1, a2, a3, a4⟩, ⟨b1, b2, b3, b4⟩, ⟨c1, c2, c3, c4, c5, c6⟩, hI, hC⟩, hu, hd, rfl⟩ := h
  exact ⟨⟨⟨a1, a2, a3, a4⟩, ⟨b1, b2, b3, b4⟩, ⟨c1, c2, c3, c4, c5, c6⟩, hI, hC⟩, rfl, rfl, rfl, hX⟩
-- ===== collect =====
theorem coll_l {T W C E : Nat} (y1 y2 p1 : Int32) : ∀ (j n i N H : Nat) (κ : KS) (μ : MS), RU κ μ N H T W C → i + j = E → T ≤ i → E ≤ H → j < n → H + cnt (lvb (kLk κ) (kIx κ)) j i ≤ T / 8 * 8 + 96 → N + j ≤ 100000 → nI T + p1 = nI E → (∀ k, k < 64 → kIx κ k = -1 ∨ ∃ p, kIx κ k = nI p ∧ i ≤ p ∧ p < 2 ^ 31) →
    sl_X2_appendLiveAgain_12 (nI E) y1 n κ (nI i) ∧ sl_X3_collect_73 y2 p1 n μ (nI i) ∧ ∃ κ' μ' H', (l_X2_appendLiveAgain_12 (nI E) y1 n κ (nI i)).1 = κ' ∧ (l_X3_collect_73 y2 p1 n μ (nI i)).1 = μ' ∧ H ≤ H' ∧ RU κ' μ' (N + j) H' T W C ∧ mTh μ' = mTh μ ∧ ∀ k, k < 64 → kIx κ' k = -1 ∨ ∃ p, kIx κ' k = nI p ∧ E ≤ p ∧ p < 2 ^ 31 := by
  intro j
  induction j with
  | zero =>
    intro n i N H κ μ h hi hT hE hn hc hN hm hp
    obtain ⟨⟨⟨a1, a2, a3, a4⟩, ⟨b1, b2, b3, b4⟩, ⟨c1, c2, c3, c4, c5, c6⟩, hI, hC⟩, hu, hd, hh, hX⟩ := id h
    obtain ⟨n, rfl⟩ := sc hn
    have hx : nI E ≤ nI i := nI_le (by omega) (by omega)
    rw [sl_X2_appendLiveAgain_12_s, l_X2_appendLiveAgain_12_s, sl_X3_collect_73_s, l_X3_collect_73_s, b1, hm, if_pos hx, if_pos hx]
    have e : i = E := by omega
    subst e
    exact ⟨⟨fun _ => trivial, fun z => absurd hx z⟩, ⟨fun _ => trivial, fun z => absurd hx z⟩, κ, μ, H, rfl, rfl, Nat.le_refl _, h, rfl, hp⟩
  | succ j ih =>
    intro n i N H κ μ h hi hT hE hn hc hN hm hp
    obtain ⟨⟨⟨a1, a2, a3, a4⟩, ⟨b1, b2, b3, b4⟩, ⟨c1, c2, c3, c4, c5, c6⟩, hI, hC⟩, hu, hd, hh, hX⟩ := id h
    obtain ⟨n, rfl⟩ := sc hn
    have hi31 : i < 2 ^ 31 := by omega
    have hx : ¬ nI E ≤ nI i := nI_ge (by omega) (by omega)
    have h10 : ¬ (1 : Int32) = 0 := by decide
    obtain ⟨⟨q, hq, k1, k2⟩, e3, e4⟩ := hI i hT (by omega)
    have h9 : i % 128 < 128 := Nat.mod_lt _ (by decide)
    have hin : vp_in (nI q) 64 := vp_in_nI hq (by decide)
    have hcn : cnt (lvb (kLk κ) (kIx κ)) (j + 1) i = (if kIx κ q = nI i then 1 else 0) + cnt (lvb (kLk κ) (kIx κ)) j (i + 1) := by
      show (if lvb (kLk κ) (kIx κ) i then 1 else 0) + _ = _
      rw [lvb_q hq k1]
      simp only [decide_eq_true_eq]
    rw [hcn] at hc
    rw [sl_X2_appendLiveAgain_12_s, l_X2_appendLiveAgain_12_s, sl_X3_collect_73_s, l_X3_collect_73_s, b1, hm, if_neg hx, if_neg hx, isLive_n hi31 hq k1, rem128 hi31, nI_clamp (n := i % 128) (by omega), k2, nI_clamp (n := q) (by omega), ← (hX q hq).1, nI_1 i]
    have huniq : ∀ k, k < 64 → kIx κ k = nI i → k = q := fun k hk z => by
      obtain ⟨-, d2⟩ := hX k hk
      rcases d2 with d2 | ⟨p, d3, d4, d5, d6, -⟩
      · rw [z] at d2; exact absurd d2 (n_ne1 hi31)
      · rw [z] at d3
        have e : i = p := (nI_eq (by omega) (by omega)).mp d3
        subst e
        rw [k1] at d6
        exact ((nI_eq (by omega) (by omega)).mp d6).symm
    by_cases hl : kIx κ q = nI i
    · have hv : kLv κ (i % 96) = -1 ∨ 0 ≤ kLv κ (i % 96) := e4
      have hv0 : 0 ≤ kLv κ (i % 96) := by
        obtain ⟨-, d2⟩ := hX q hq
        rcases d2 with d2 | ⟨p, d3, d4, d5, d6, d7⟩
        · rw [hl] at d2; exact absurd d2 (n_ne1 hi31)
        · rw [hl] at d3
          have e : i = p := (nI_eq (by omega) (by omega)).mp d3
          subst e
          exact d7
      rw [if_pos hl] at hc
      have hR := h.app (by omega) (by omega) hq hv
      have eK : (v_X2_append κ (v_X1_keyAt (kLk κ, kLv κ) (nI i)) (v_X1_valueAt (kLk κ, kLv κ) (nI i))).2 = kapp κ q (kLv κ (i % 96)) H := by
        rw [keyAt_n _ hi31, valueAt_n _ hi31]
        show (v_X2_append κ (kLk κ (i % 96)) (kLv κ (i % 96))).2 = _
        rw [k1, append_n (by omega) hq a1]
      have eM : mSIx ((v_X3_appends μ (nI q) (mVl μ (i % 128))).2) (upd (mIx ((v_X3_appends μ (nI q) (mVl μ (i % 128))).2)) q ((v_X3_appends μ (nI q) (mVl μ (i % 128))).1)) = mapp μ q (kLv κ (i % 96)) H := by
        rw [appends_n (by omega) hh, ← e3]
        unfold mapp
        rw [if_neg (n_pos1 hv0)]
        rfl
      rw [if_pos hl, if_neg h10, if_pos hl, eK, eM]
      have hcc : cnt (lvb (kLk (kapp κ q (kLv κ (i % 96)) H)) (kIx (kapp κ q (kLv κ (i % 96)) H))) j (i + 1) = cnt (lvb (kLk κ) (kIx κ)) j (i + 1) := cnt_cong j (i + 1) (fun p p1 p2 => by
        obtain ⟨⟨r, hr, r1, -⟩, -, -⟩ := hI p (by omega) (by omega)
        have hne : p % 96 ≠ H % 96 := by omega
        have r2 : kLk (kapp κ q (kLv κ (i % 96)) H) (p % 96) = nI r := by
          show upd (kLk κ) (H % 96) (nI q) (p % 96) = nI r
          rw [pk_un hne]; exact r1
        rw [lvb_q hr r2, lvb_q hr r1]
        refine decide_eq_decide.mpr ?_
        show upd (kIx κ) q (if kLv κ (i % 96) = -1 then -1 else nI H) r = nI p ↔ _
        by_cases e : r = q
        · subst e
          rw [pk_us, if_neg (n_pos1 hv0), hl, nI_eq (by omega) (by omega), nI_eq (by omega) (by omega)]
          omega
        · rw [pk_un e])
      obtain ⟨s1, s2, κ', μ', H', l1, l2, l3, l4, l6, l5⟩ := ih n (i + 1) (N + 1) (H + 1) _ _ hR (by omega) (by omega) (by omega) (by omega) (by rw [hcc]; omega) (by omega) hm (fun k hk => by
        show upd (kIx κ) q (if kLv κ (i % 96) = -1 then -1 else nI H) k = -1 ∨ ∃ p, upd (kIx κ) q (if kLv κ (i % 96) = -1 then -1 else nI H) k = nI p ∧ i + 1 ≤ p ∧ p < 2 ^ 31
        by_cases e : k = q
        · subst e
          rw [pk_us, if_neg (n_pos1 hv0)]
          exact Or.inr ⟨H, rfl, by omega, by omega⟩
        · rw [pk_un e]
          rcases hp k hk with z | ⟨p, z1, z2, z3⟩
          · exact Or.inl z
          · refine Or.inr ⟨p, z1, ?_, z3⟩
            by_cases w : p = i
            · subst w; exact absurd (huniq k hk z1) e
            · omega)
      rw [show N + 1 + j = N + (j + 1) by omega] at l4
      exact ⟨⟨fun z => absurd z hx, fun _ => ⟨isLive_s _ _, ⟨fun z => absurd z h10, fun _ => ⟨keyAt_s _ _, valueAt_s _ _, append_s _ _ _, trivial⟩⟩, s1⟩⟩, ⟨fun z => absurd z hx, fun _ => ⟨in128, hin, ⟨fun _ => ⟨in128, appends_s (by omega) hh _ _, hin, trivial⟩, fun z => absurd hl z⟩, s2⟩⟩, κ', μ', H', l1, l2, by omega, l4, l6, l5⟩
    · rw [if_neg hl] at hc
      rw [if_neg hl, if_pos rfl, if_neg hl]
      obtain ⟨s1, s2, κ', μ', H', l1, l2, l3, l4, l6, l5⟩ := ih n (i + 1) N H κ μ h (by omega) (by omega) hE (by omega) (by omega) (by omega) hm (fun k hk => by
        rcases hp k hk with z | ⟨p, z1, z2, z3⟩
        · exact Or.inl z
        · refine Or.inr ⟨p, z1, ?_, z3⟩
          by_cases w : p = i
          · subst w
            have e := huniq k hk z1
            subst e
            exact absurd z1 hl
          · omega)
      exact ⟨⟨fun z => absurd z hx, fun _ => ⟨isLive_s _ _, ⟨fun _ => trivial, fun z => absurd rfl z⟩, s1⟩⟩, ⟨fun z => absurd z hx, fun _ => ⟨in128, hin, ⟨fun z => absurd z hl, fun _ => trivial⟩, s2⟩⟩, κ', μ', H', l1, l2, l3, l4.mono (by omega) (by omega), l6, l5⟩

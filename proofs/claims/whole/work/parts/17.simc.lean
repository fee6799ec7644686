theorem sim_checkpoint {κ : KS} {μ : MS} {N : Nat} (h : RQ κ μ N) (h9 : N + 96 ≤ 100000) : SIM N (s_X2_checkpoint κ) (s_X3_checkpoint μ) (x_X2_checkpoint κ) (kc1 (x_X2_checkpoint κ)) (v_X2_checkpoint κ).1 (v_X3_checkpoint μ).1 κ (v_X2_checkpoint κ).2 (v_X3_checkpoint μ).2 := by
  have hq := (h.mono (show N ≤ N + 96 by omega) h9)
  unfold SIM s_X2_checkpoint s_X3_checkpoint x_X2_checkpoint v_X3_checkpoint v_X2_checkpoint
  rcases h.cases with ⟨hu, hn, hd, -⟩ | ⟨hu, hn, hd, H, T, W, C, hR⟩
  · rw [goes1 (dn1 hd), if_pos (g0 (t := μ)), hn, if_neg (by decide)]
    exact ⟨fun z => absurd z (by decide), ⟨fun _ => trivial, fun z => absurd g0 z⟩, rfl, fun z => absurd z (by decide), fun _ => hq.th _⟩
  · rw [goes0 (dn0 hd) n10, if_neg (g1 (t := μ)), hn, if_pos rfl]
    obtain ⟨s1, s2, r⟩ := sync_v (hR.th 0)
    rcases r with ⟨a, e1, e2⟩ | ⟨v, h1, h2, e1, e2⟩
    · have e2' : v_X3_synchronizes ((1, mSTh μ 0) : Int32 × MS).2 = (1, mdone (mSTh μ 0) H a) := e2
      rw [e2', e1]
      have k1 : ¬ ((1, kdone κ H a) : Int32 × KS).1 = 0 := n10
      rw [if_neg k1, if_neg (g1 (t := μ))]
      have hR1 := (hR.th 0).done a
      rcases write_v hR1 with ⟨w1, w2⟩ | ⟨b, w1, w2⟩
      · have w1' : v_X2_writeOnce ((1, kdone κ H a) : Int32 × KS).2 = (0, kfail (kdone κ H a) H) := w1
        have w2' : v_X3_writes ((1, mdone (mSTh μ 0) H a) : Int32 × MS).2 = (0, mfail (mdone (mSTh μ 0) H a) H) := w2
        rw [w1', w2', if_pos (g0 (t := μ))]
        have k0 : ((0, kfail (kdone κ H a) H) : Int32 × KS).1 = 0 := rfl
        rw [if_pos k0]
        exact ⟨fun _ => ⟨s1, fun _ => trivial, fun _ => ⟨fun _ => trivial, fun z => absurd k0 z⟩⟩, ⟨fun z => absurd z g1, fun _ => ⟨s2, fun _ => trivial, fun _ => ⟨fun _ => trivial, fun z => absurd g0 z⟩⟩⟩, rfl, fun _ => ⟨rfl, (hR1.fail (Nat.le_refl _) (Nat.le_refl _)).q (by omega) h9⟩, fun z => absurd rfl z⟩
      · have w1' : v_X2_writeOnce ((1, kdone κ H a) : Int32 × KS).2 = (1, kdone (kdone κ H a) H b) := w1
        have w2' : v_X3_writes ((1, mdone (mSTh μ 0) H a) : Int32 × MS).2 = (1, mdone (mdone (mSTh μ 0) H a) H b) := w2
        rw [w1', w2', if_neg (g1 (t := μ))]
        have k2 : ¬ ((1, kdone (kdone κ H a) H b) : Int32 × KS).1 = 0 := n10
        rw [if_neg k2]
        have hR2 := hR1.done b
        obtain ⟨tS, tV⟩ := takeFrom_v (kIx (kdone (kdone κ H a) H b)) (kCi (kdone (kdone κ H a) H b))
        obtain ⟨cS, g, cE, cV⟩ := ckpt_l (mdone (mdone (mSTh μ 0) H a) H b) 64 100 0 (mKp (mdone (mdone (mSTh μ 0) H a) H b)) (by omega) (by omega) (fun k hk => by omega)
        rw [nI_0, mSKp_i] at cS cE
        have cE' : (l_X3_checkpoint_38 100 ((1, mdone (mdone (mSTh μ 0) H a) H b) : Int32 × MS).2 0).1 = mSKp (mdone (mdone (mSTh μ 0) H a) H b) g := cE
        rw [cE']
        have hR3 := hR2.ckpt (f := v_X0_takeFrom (kIx (kdone (kdone κ H a) H b)) (kCi (kdone (kdone κ H a) H b))) (g := g) tV cV
        have hKH : kHd (kdone (kdone κ H a) H b) = nI H := hR2.1.1.1
        have hMH : mHd (mSKp (mdone (mdone (mSTh μ 0) H a) H b) g) = nI H := hR2.2.2.2.1
        refine ⟨fun _ => ⟨s1, fun _ => trivial, fun _ => ⟨fun _ => trivial, fun _ => ⟨tS, trivial⟩⟩⟩, ⟨fun z => absurd z g1, fun _ => ⟨s2, fun _ => trivial, fun _ => ⟨fun _ => trivial, fun _ => ⟨cS, trivial⟩⟩⟩⟩, rfl, fun _ => ⟨rfl, ?_⟩, fun z => absurd rfl z⟩
        show RQ (kSCt (kSCi (kdone (kdone κ H a) H b) (v_X0_takeFrom (kIx (kdone (kdone κ H a) H b)) (kCi (kdone (kdone κ H a) H b)))) (kHd (kdone (kdone κ H a) H b))) (mSCp (mSKp (mdone (mdone (mSTh μ 0) H a) H b) g) (mHd (mSKp (mdone (mdone (mSTh μ 0) H a) H b) g))) (N + 96)
        rw [hKH, hMH]
        exact hR3.q (by omega) h9
    · have e2' : v_X3_synchronizes ((1, mSTh μ 0) : Int32 × MS).2 = (0, mfail (mSTh μ 0) v) := e2
      have k0 : ((0, kfail κ v) : Int32 × KS).1 = 0 := rfl
      rw [e2', e1, if_pos (g0 (t := μ)), if_pos k0]
      exact ⟨fun _ => ⟨s1, fun _ => trivial, fun z => absurd k0 z⟩, ⟨fun z => absurd z g1, fun _ => ⟨s2, fun _ => trivial, fun z => absurd g0 z⟩⟩, rfl, fun _ => ⟨rfl, ((hR.th 0).fail h1 (by omega)).q (by omega) h9⟩, fun z => absurd rfl z⟩
theorem ent_ok {p : Int32} (h1 : ¬ p < 1) (h2 : p ≤ 96) : ∃ e, 1 ≤ e ∧ e ≤ 96 ∧ p = nI e := by
  have t1 : (1 : Int32).toInt = 1 := by decide
  have t96 : (96 : Int32).toInt = 96 := by decide
  have t0 : (0 : Int32).toInt = 0 := by decide
  have h0 : ¬ p < 0 := fun z => h1 (by
    rw [Int32.lt_iff_toInt_lt, t0] at z
    rw [Int32.lt_iff_toInt_lt, t1]
    omega)
  obtain ⟨e, he, rfl⟩ := nI_of h0
  rw [Int32.lt_iff_toInt_lt, t1, nI_toInt he] at h1
  rw [Int32.le_iff_toInt_le, t96, nI_toInt he] at h2
  exact ⟨e, by omega, by omega, rfl⟩
theorem gt96 {p : Int32} (h : ¬ p ≤ 96) : (96 : Int32) < p := by
  rw [Int32.le_iff_toInt_le] at h
  rw [Int32.lt_iff_toInt_lt]
  omega
theorem sim_collect {κ : KS} {μ : MS} {N : Nat} (h : RQ κ μ N) (h9 : N + 96 ≤ 100000) (p : Int32) : SIM N (s_X2_collect κ p) (s_X3_collect μ p) (x_X2_collect κ p) (nI (x_X2_collect κ p)) (v_X2_collect κ p).1 (v_X3_collect μ p).1 κ (v_X2_collect κ p).2 (v_X3_collect μ p).2 := by
  have hq := (h.mono (show N ≤ N + 96 by omega) h9)
  unfold SIM
  have bad : s_X2_collect κ p → x_X2_collect κ p = 1 → (if p < 1 then 0 else if 96 < p then 0 else 1 : Int32) = 0 → s_X2_collect κ p ∧ s_X3_collect μ p ∧ mTh (v_X3_collect μ p).2 = nI (x_X2_collect κ p) ∧ (x_X2_collect κ p = 0 → (v_X2_collect κ p).1 = (v_X3_collect μ p).1 ∧ RQ (v_X2_collect κ p).2 (v_X3_collect μ p).2 (N + 96)) ∧ (¬ x_X2_collect κ p = 0 → RQ κ (v_X3_collect μ p).2 (N + 96)) := fun s e a => by
    refine ⟨s, ?_⟩
    rw [e]
    unfold s_X3_collect v_X3_collect
    rw [goes1 a, if_pos (g0 (t := μ))]
    exact ⟨⟨⟨fun _ => trivial, fun z => absurd a z⟩, fun _ => trivial, fun z => absurd g0 z⟩, rfl, fun z => absurd z (by decide), fun _ => hq.th _⟩
  by_cases h1 : p < 1
  · exact bad ⟨fun _ => trivial, fun z => absurd h1 z⟩ (by unfold x_X2_collect; rw [if_pos h1]) (if_pos h1)
  · by_cases h2 : p ≤ 96
    · obtain ⟨e, he1, he96, rfl⟩ := ent_ok h1 h2
      have hA : ¬ (if nI e < 1 then 0 else if 96 < nI e then 0 else 1 : Int32) = 0 := by
        have z2 : ¬ (96 : Int32) < nI e := nI_nlt (b := 96) (a := 96) (Nat.le_refl _) (by decide) |> fun _ => fun z => absurd ((nI_ltI (a := 96) (by decide) (by omega)).mp z) (by omega)
        rw [if_neg h1, if_neg z2]; exact n10
      have hx : x_X2_collect κ (nI e) = if x_X2_needUp κ = 0 then if nI e ≤ ((kHd κ) - (kTl κ)) then if x_X2_needRoom κ (v_X2_liveFromTail κ (nI e)) = 0 then 0 else x_X2_needRoom κ (v_X2_liveFromTail κ (nI e)) else 2 else x_X2_needUp κ := by
        unfold x_X2_collect
        rw [if_neg h1, if_pos h2]
      rcases h.cases with ⟨hu, hn, hd, -⟩ | ⟨hu, hn, hd, H, T, W, C, hR⟩
      · have ex : x_X2_collect κ (nI e) = 2 := by rw [hx, hn, if_neg (by decide)]
        have hB : (if (if nI e < 1 then 0 else if 96 < nI e then 0 else 1 : Int32) = 0 then 0 else if (mDn μ) = 0 then if ((mHd μ) - (mTl μ)) < nI e then 0 else if (v_X3_canAppend μ (v_X3_liveIn μ (nI e))) = 0 then 0 else 1 else 0 : Int32) = 0 := by
          rw [if_neg hA, if_neg (by rw [hd]; exact n10)]
        rw [ex]
        unfold s_X2_collect s_X3_collect v_X3_collect
        rw [goes2 hA hB, if_pos (g0 (t := μ)), hn]
        exact ⟨⟨fun _ => trivial, fun _ => ⟨fun _ z => absurd z (by decide), fun _ => trivial⟩⟩, ⟨⟨fun z => absurd z hA, fun _ => ⟨fun z => absurd z (by rw [hd]; exact n10), fun _ => trivial⟩⟩, fun _ => trivial, fun z => absurd g0 z⟩, rfl, fun z => absurd z (by decide), fun _ => hq.th _⟩
      · obtain ⟨⟨⟨a1, a2, a3, a4⟩, ⟨b1, b2, b3, b4⟩, ⟨c1, c2, c3, c4, c5, c6⟩, hI, hC⟩, -, -, hm, hX⟩ := id hR
        have ek : kHd κ - kTl κ = nI (H - T) := by rw [a1, a2, pk_sub (by omega)]
        have em : mHd μ - mTl μ = nI (H - T) := by rw [hm, b1, pk_sub (by omega)]
        by_cases c : e ≤ H - T
        · have hle : nI e ≤ kHd κ - kTl κ := by rw [ek]; exact nI_le c (by omega)
          have hnl : ¬ (mHd μ - mTl μ) < nI e := by rw [em]; exact nI_nlt c (by omega)
          obtain ⟨sl1, sl2, vl1, vl2⟩ := live_v hR (e := e) (by omega) he96
          have hcn := cnt_le (lvb (kLk κ) (kIx κ)) e T
          have er := room_n (κ := κ) (cnt (lvb (kLk κ) (kIx κ)) e T) (by omega) (by omega) c4 a1 a2
          have ec := can_n (μ := μ) (cnt (lvb (kLk κ) (kIx κ)) e T) (by omega) (by omega) (by omega) c4 hm b1
          rw [← vl1] at er
          rw [← vl2] at ec
          by_cases cc : H + cnt (lvb (kLk κ) (kIx κ)) e T ≤ T / 8 * 8 + 96
          · rw [if_pos cc] at er ec
            have ex : x_X2_collect κ (nI e) = 0 := by rw [hx, hn, if_pos rfl, if_pos hle, if_pos er]
            have hB : ¬ (if (if nI e < 1 then 0 else if 96 < nI e then 0 else 1 : Int32) = 0 then 0 else if (mDn μ) = 0 then if ((mHd μ) - (mTl μ)) < nI e then 0 else if (v_X3_canAppend μ (v_X3_liveIn μ (nI e))) = 0 then 0 else 1 else 0 : Int32) = 0 := by
              rw [if_neg hA, if_pos hd, if_neg hnl, if_neg (by rw [ec]; exact n10)]; exact n10
            obtain ⟨cs1, cs2, κ1, μ1, H1, ce1, ce2, cH, hR1, hth, hp1⟩ := coll_l (nI e) (if nI e < 1 then 0 else if 96 < nI e then 0 else 1 : Int32) (nI e) e 100 T N H κ (mSTh μ 0) (hR.th 0) rfl (Nat.le_refl _) (by omega) (by omega) cc (by omega) (nI_add T e) (fun k hk => by
              obtain ⟨-, d2⟩ := hX k hk
              rcases d2 with d2 | ⟨q, d3, d4, d5, -⟩
              · exact Or.inl d2
              · exact Or.inr ⟨q, d3, d4, by omega⟩)
            have eT : kTl κ + nI e = nI (T + e) := by rw [a2, nI_add]
            have eK : v_X2_appendLiveAgain κ (nI e) = κ1 := by
              unfold v_X2_appendLiveAgain
              rw [eT, a2]; exact ce1
            have sK : s_X2_appendLiveAgain κ (nI e) := by
              unfold s_X2_appendLiveAgain
              rw [eT, a2]; exact ⟨cs1, trivial⟩
            have eM : (l_X3_collect_73 (if nI e < 1 then 0 else if 96 < nI e then 0 else 1 : Int32) (nI e) 100 ((1, mSTh μ 0) : Int32 × MS).2 (mTl ((1, mSTh μ 0) : Int32 × MS).2)).1 = μ1 := by
              rw [show mTl ((1, mSTh μ 0) : Int32 × MS).2 = nI T from b1]; exact ce2
            have sM : sl_X3_collect_73 (if nI e < 1 then 0 else if 96 < nI e then 0 else 1 : Int32) (nI e) 100 ((1, mSTh μ 0) : Int32 × MS).2 (mTl ((1, mSTh μ 0) : Int32 × MS).2) := by
              rw [show mTl ((1, mSTh μ 0) : Int32 × MS).2 = nI T from b1]; exact cs2
            obtain ⟨s1, s2, r⟩ := sync_v hR1
            rw [ex]
            have sKall : s_X2_collect κ (nI e) := ⟨fun _ => trivial, fun _ => ⟨fun _ _ => ⟨fun _ => ⟨sl1, fun _ => ⟨sK, by rw [eK]; exact ⟨s1, trivial⟩⟩⟩, fun _ => trivial⟩, fun _ => trivial⟩⟩
            have sMall : s_X3_collect μ (nI e) := by
              unfold s_X3_collect
              rw [goes0 hA hB, eM]
              exact ⟨⟨fun _ => trivial, fun _ => ⟨fun _ => ⟨fun _ => trivial, fun _ => ⟨sl2, trivial⟩⟩, fun _ => trivial⟩⟩, fun _ => trivial, fun _ => ⟨sM, s2, trivial⟩⟩
            refine ⟨sKall, sMall, ?_⟩
            unfold v_X3_collect v_X2_collect
            rw [goes0 hA hB, if_neg (g1 (t := μ)), eM, if_neg h1, if_pos h2, if_pos hle, eK]
            rcases r with ⟨a, e1, e2⟩ | ⟨v, v1, v2, e1, e2⟩
            · have k1 : ¬ ((1, kdone κ1 H1 a) : Int32 × KS).1 = 0 := n10
              rw [e1, e2, if_neg k1, if_neg (g1 (t := μ))]
              have hRd := hR1.done a
              rcases write_v hRd with ⟨w1, w2⟩ | ⟨b, w1, w2⟩
              · have w1' : v_X2_writeOnce ((1, kdone κ1 H1 a) : Int32 × KS).2 = (0, kfail (kdone κ1 H1 a) H1) := w1
                have w2' : v_X3_writes ((1, mdone μ1 H1 a) : Int32 × MS).2 = (0, mfail (mdone μ1 H1 a) H1) := w2
                have k0 : ((0, kfail (kdone κ1 H1 a) H1) : Int32 × KS).1 = 0 := rfl
                rw [w1', w2', if_pos k0, if_pos (g0 (t := μ))]
                refine ⟨?_, fun _ => ⟨rfl, (hRd.fail (Nat.le_refl _) (Nat.le_refl _)).q (by omega) h9⟩, fun z => absurd rfl z⟩
                exact hth
              · have w1' : v_X2_writeOnce ((1, kdone κ1 H1 a) : Int32 × KS).2 = (1, kdone (kdone κ1 H1 a) H1 b) := w1
                have w2' : v_X3_writes ((1, mdone μ1 H1 a) : Int32 × MS).2 = (1, mdone (mdone μ1 H1 a) H1 b) := w2
                have k2 : ¬ ((1, kdone (kdone κ1 H1 a) H1 b) : Int32 × KS).1 = 0 := n10
                rw [w1', w2', if_neg k2, if_neg (g1 (t := μ))]
                have hR2 := hRd.done b
                have eT1 : kTl ((1, kdone (kdone κ1 H1 a) H1 b) : Int32 × KS).2 + nI e = nI (T + e) := by
                  rw [show kTl ((1, kdone (kdone κ1 H1 a) H1 b) : Int32 × KS).2 = nI T from hR2.1.1.2.1, nI_add]
                have eT2 : mTl ((1, mdone (mdone μ1 H1 a) H1 b) : Int32 × MS).2 + nI e = nI (T + e) := by
                  rw [show mTl ((1, mdone (mdone μ1 H1 a) H1 b) : Int32 × MS).2 = nI T from hR2.1.2.1.1, nI_add]
                rw [eT1, eT2]
                refine ⟨?_, fun _ => ⟨rfl, (hR2.tail (by omega) hp1).q (by omega) h9⟩, fun z => absurd rfl z⟩
                exact hth
            · have k0 : ((0, kfail κ1 v) : Int32 × KS).1 = 0 := rfl
              rw [e1, e2, if_pos k0, if_pos (g0 (t := μ))]
              refine ⟨?_, fun _ => ⟨rfl, (hR1.fail v1 (by omega)).q (by omega) h9⟩, fun z => absurd rfl z⟩
              exact hth
          · rw [if_neg cc] at er ec
            have ex : x_X2_collect κ (nI e) = 2 := by rw [hx, hn, if_pos rfl, if_pos hle, er, if_neg (by decide)]
            have hB : (if (if nI e < 1 then 0 else if 96 < nI e then 0 else 1 : Int32) = 0 then 0 else if (mDn μ) = 0 then if ((mHd μ) - (mTl μ)) < nI e then 0 else if (v_X3_canAppend μ (v_X3_liveIn μ (nI e))) = 0 then 0 else 1 else 0 : Int32) = 0 := by
              rw [if_neg hA, if_pos hd, if_neg hnl, if_pos ec]
            rw [ex]
            unfold s_X2_collect s_X3_collect v_X3_collect
            rw [goes2 hA hB, if_pos (g0 (t := μ)), hn, er]
            exact ⟨⟨fun _ => trivial, fun _ => ⟨fun _ _ => ⟨fun _ => ⟨sl1, fun z => absurd z (by decide)⟩, fun _ => trivial⟩, fun _ => trivial⟩⟩, ⟨⟨fun _ => trivial, fun _ => ⟨fun _ => ⟨fun _ => trivial, fun _ => ⟨sl2, trivial⟩⟩, fun _ => trivial⟩⟩, fun _ => trivial, fun z => absurd g0 z⟩, rfl, fun z => absurd z (by decide), fun _ => hq.th _⟩
        · have hle : ¬ nI e ≤ kHd κ - kTl κ := by rw [ek]; exact nI_ge (by omega) (by omega)
          have hnl : (mHd μ - mTl μ) < nI e := by rw [em]; exact nI_lt (by omega) (by omega)
          have ex : x_X2_collect κ (nI e) = 2 := by rw [hx, hn, if_pos rfl, if_neg hle]
          have hB : (if (if nI e < 1 then 0 else if 96 < nI e then 0 else 1 : Int32) = 0 then 0 else if (mDn μ) = 0 then if ((mHd μ) - (mTl μ)) < nI e then 0 else if (v_X3_canAppend μ (v_X3_liveIn μ (nI e))) = 0 then 0 else 1 else 0 : Int32) = 0 := by
            rw [if_neg hA, if_pos hd, if_pos hnl]
          rw [ex]
          unfold s_X2_collect s_X3_collect v_X3_collect
          rw [goes2 hA hB, if_pos (g0 (t := μ))]
          exact ⟨⟨fun _ => trivial, fun _ => ⟨fun _ _ => ⟨fun z => absurd z hle, fun _ => trivial⟩, fun _ => trivial⟩⟩, ⟨⟨fun _ => trivial, fun _ => ⟨fun _ => ⟨fun _ => trivial, fun z => absurd hnl z⟩, fun _ => trivial⟩⟩, fun _ => trivial, fun z => absurd g0 z⟩, rfl, fun z => absurd z (by decide), fun _ => hq.th _⟩
    · exact bad ⟨fun z => absurd z h1, fun _ => ⟨fun z => absurd z h2, fun _ => trivial⟩⟩ (by unfold x_X2_collect; rw [if_neg h1, if_neg h2]) (by rw [if_neg h1, if_pos (gt96 h2)])

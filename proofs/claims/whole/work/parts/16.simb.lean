-- ===== the calls that change the store =====
theorem v9999 {x : Int32} : x ≤ 9999 ↔ ¬ (10000 : Int32) ≤ x := by
  rw [Int32.le_iff_toInt_le, Int32.le_iff_toInt_le]
  have z1 : (9999 : Int32).toInt = 9999 := by decide
  have z2 : (10000 : Int32).toInt = 10000 := by decide
  rw [z1, z2]
  omega
theorem sim_put {κ : KS} {μ : MS} {N : Nat} (h : RQ κ μ N) (h9 : N + 96 ≤ 100000) (p v : Int32) : SIM N (s_X2_put κ p v) (s_X3_put μ p v) (x_X2_put κ p v) (nI (x_X2_put κ p v)) (v_X2_put κ p v).1 (v_X3_put μ p v).1 κ (v_X2_put κ p v).2 (v_X3_put μ p v).2 := by
  have hq := (h.mono (show N ≤ N + 96 by omega) h9)
  unfold SIM
  have hs : s_X2_put κ p v := fun _ => ⟨fun _ => trivial, fun _ => ⟨fun _ _ _ => ⟨append_s _ _ _, trivial⟩, fun _ => trivial⟩⟩
  refine ⟨hs, ?_⟩
  -- a wrong argument
  have bad : x_X2_put κ p v = 1 → (if (v_X3_isKey p) = 0 then 0 else if v < 0 then 0 else if 10000 ≤ v then 0 else 1 : Int32) = 0 → s_X3_put μ p v ∧ mTh (v_X3_put μ p v).2 = nI (x_X2_put κ p v) ∧ (x_X2_put κ p v = 0 → (v_X2_put κ p v).1 = (v_X3_put μ p v).1 ∧ RQ (v_X2_put κ p v).2 (v_X3_put μ p v).2 (N + 96)) ∧ (¬ x_X2_put κ p v = 0 → RQ κ (v_X3_put μ p v).2 (N + 96)) := fun e a => by
    rw [e]
    unfold s_X3_put v_X3_put
    rw [goes1 a, if_pos g0]
    exact ⟨⟨fun _ => trivial, fun z => absurd g0 z⟩, rfl, fun z => absurd z (by decide), fun _ => hq.th _⟩
  by_cases hk : x_X2_needKey p = 0
  · by_cases h1 : v < 0
    · exact bad (by unfold x_X2_put; rw [if_pos hk, if_pos h1]) (by rw [if_neg (isKey1 hk), if_pos h1])
    · by_cases h2 : v ≤ 9999
      · have hA : ¬ (if (v_X3_isKey p) = 0 then 0 else if v < 0 then 0 else if 10000 ≤ v then 0 else 1 : Int32) = 0 := by
          rw [if_neg (isKey1 hk), if_neg h1, if_neg (v9999.mp h2)]; exact n10
        have hx : x_X2_put κ p v = if x_X2_needUp κ = 0 then if x_X2_needRoom κ 1 = 0 then 0 else x_X2_needRoom κ 1 else x_X2_needUp κ := by
          unfold x_X2_put
          rw [if_pos hk, if_neg h1, if_pos h2]
        -- refused: down, or no room
        have ref : x_X2_put κ p v = 2 → (if (mDn μ) = 0 then if (v_X3_canAppend μ 1) = 0 then 0 else 1 else 0 : Int32) = 0 → s_X3_put μ p v ∧ mTh (v_X3_put μ p v).2 = nI (x_X2_put κ p v) ∧ (x_X2_put κ p v = 0 → (v_X2_put κ p v).1 = (v_X3_put μ p v).1 ∧ RQ (v_X2_put κ p v).2 (v_X3_put μ p v).2 (N + 96)) ∧ (¬ x_X2_put κ p v = 0 → RQ κ (v_X3_put μ p v).2 (N + 96)) := fun e b => by
          rw [e]
          unfold s_X3_put v_X3_put
          rw [goes2 hA b, if_pos g0]
          exact ⟨⟨fun _ => trivial, fun z => absurd g0 z⟩, rfl, fun z => absurd z (by decide), fun _ => hq.th _⟩
        rcases h.cases with ⟨hu, hn, hd, -⟩ | ⟨hu, hn, hd, H, T, W, C, hR⟩
        · exact ref (by rw [hx, hn, if_neg (by decide)]) (if_neg (by rw [hd]; exact n10))
        · obtain ⟨⟨⟨a1, a2, a3, a4⟩, ⟨b1, b2, b3, b4⟩, ⟨c1, c2, c3, c4, c5, c6⟩, hI, hC⟩, -, -, hm, -⟩ := id hR
          have er := room_n (κ := κ) 1 (by omega) (by omega) c4 a1 a2
          have ec := can_n (μ := μ) 1 (by omega) (by omega) (by omega) c4 hm b1
          by_cases c : H + 1 ≤ T / 8 * 8 + 96
          · rw [if_pos c] at er ec
            have ex : x_X2_put κ p v = 0 := by
              rw [hx, hn, if_pos rfl]
              exact if_pos er
            have hB : ¬ (if (mDn μ) = 0 then if (v_X3_canAppend μ 1) = 0 then 0 else 1 else 0 : Int32) = 0 := by
              rw [if_pos hd, if_neg (show ¬ v_X3_canAppend μ 1 = 0 from by rw [show v_X3_canAppend μ 1 = 1 from ec]; exact n10)]; exact n10
            obtain ⟨k, hk64, rfl⟩ := key_ok hk
            have hin : vp_in (nI k) 64 := vp_in_nI hk64 (by decide)
            have hv : v = -1 ∨ 0 ≤ v := Or.inr (n_nlt h1)
            have hRa := (hR.th 0).app c (by omega) hk64 hv
            have eM : v_X3_put μ (nI k) v = (nI H, mapp (mSTh μ 0) k v H) := by
              unfold v_X3_put
              rw [goes0 hA hB, if_neg g1, appends_n (μ := mSTh μ 0) (by omega) hm, nI_clamp (by omega), pk_us]
              unfold mapp
              rw [if_neg (n_pos1 (n_nlt h1))]
              rfl
            have eK : v_X2_put κ (nI k) v = (nI H, kapp κ k v H) := by
              unfold v_X2_put
              rw [if_neg h1, if_pos h2, append_n (by omega) hk64 a1]
            rw [ex, eM, eK]
            refine ⟨?_, rfl, fun _ => ⟨rfl, hRa.q (by omega) h9⟩, fun z => absurd rfl z⟩
            unfold s_X3_put
            rw [goes0 hA hB]
            exact ⟨fun z => absurd z g1, fun _ => ⟨appends_s (μ := mSTh μ 0) (by omega) hm _ _, hin, hin, trivial⟩⟩
          · rw [if_neg c] at er ec
            have er' : x_X2_needRoom κ 1 = 2 := er
            have ec' : v_X3_canAppend μ 1 = 0 := ec
            exact ref (by rw [hx, hn, if_pos rfl, er', if_neg (by decide)]) (by rw [if_pos hd, if_pos ec'])
      · exact bad (by unfold x_X2_put; rw [if_pos hk, if_neg h1, if_neg h2]) (by
          rw [if_neg (isKey1 hk), if_neg h1, if_pos (Decidable.not_not.mp (fun z => h2 (v9999.mpr z)))])
  · exact bad (by unfold x_X2_put; rw [if_neg hk]; exact key_no hk) (if_pos (isKey0 hk))
theorem sim_delete {κ : KS} {μ : MS} {N : Nat} (h : RQ κ μ N) (h9 : N + 96 ≤ 100000) (p : Int32) : SIM N (s_X2_delete κ p) (s_X3_delete μ p) (x_X2_delete κ p) (nI (x_X2_delete κ p)) (v_X2_delete κ p).1 (v_X3_delete μ p).1 κ (v_X2_delete κ p).2 (v_X3_delete μ p).2 := by
  have hq := (h.mono (show N ≤ N + 96 by omega) h9)
  unfold SIM
  have hs : s_X2_delete κ p := fun _ _ => ⟨fun _ => trivial, fun _ _ => ⟨valueOf_s _ _, append_s _ _ _, trivial⟩⟩
  refine ⟨hs, ?_⟩
  by_cases hk : x_X2_needKey p = 0
  · have hA := isKey1 hk
    have hx : x_X2_delete κ p = if x_X2_needUp κ = 0 then if (v_X0_has (kIx κ) p) = 0 then 2 else if x_X2_needRoom κ 1 = 0 then 0 else x_X2_needRoom κ 1 else x_X2_needUp κ := by
      unfold x_X2_delete
      rw [if_pos hk]
    obtain ⟨k, hk64, rfl⟩ := key_ok hk
    have hin : vp_in (nI k) 64 := vp_in_nI hk64 (by decide)
    have ref : x_X2_delete κ (nI k) = 2 → (if (v_X3_isKey (nI k)) = 0 then 0 else if (mDn μ) = 0 then if ((mIx μ) (nI k).toNatClampNeg) < 0 then 0 else if (v_X3_canAppend μ 1) = 0 then 0 else 1 else 0 : Int32) = 0 → s_X3_delete μ (nI k) ∧ mTh (v_X3_delete μ (nI k)).2 = nI (x_X2_delete κ (nI k)) ∧ (x_X2_delete κ (nI k) = 0 → (v_X2_delete κ (nI k)).1 = (v_X3_delete μ (nI k)).1 ∧ RQ (v_X2_delete κ (nI k)).2 (v_X3_delete μ (nI k)).2 (N + 96)) ∧ (¬ x_X2_delete κ (nI k) = 0 → RQ κ (v_X3_delete μ (nI k)).2 (N + 96)) := fun e b => by
      rw [e]
      unfold s_X3_delete v_X3_delete
      rw [goes2 hA b, if_pos g0]
      exact ⟨⟨⟨fun z => absurd z hA, fun _ => ⟨fun _ => ⟨hin, trivial⟩, fun _ => trivial⟩⟩, fun _ => trivial, fun z => absurd g0 z⟩, rfl, fun z => absurd z (by decide), fun _ => hq.th _⟩
    rcases h.cases with ⟨hu, hn, hd, -⟩ | ⟨hu, hn, hd, H, T, W, C, hR⟩
    · exact ref (by rw [hx, hn, if_neg (by decide)]) (by rw [if_neg hA, if_neg (by rw [hd]; exact n10)])
    · obtain ⟨⟨⟨a1, a2, a3, a4⟩, ⟨b1, b2, b3, b4⟩, ⟨c1, c2, c3, c4, c5, c6⟩, hI, hC⟩, -, -, hm, -⟩ := id hR
      obtain ⟨d1, d2⟩ := hR.ixpos k hk64
      rcases d2 with d2 | d2
      · refine ref ?_ ?_
        · rw [hx, hn, if_pos rfl, has_n _ hk64, if_pos d2, if_pos rfl]
        · rw [if_neg hA, if_pos hd, nI_clamp (by omega), ← d1, d2, if_pos n_m1lt]
      · have er := room_n (κ := κ) 1 (by omega) (by omega) c4 a1 a2
        have ec := can_n (μ := μ) 1 (by omega) (by omega) (by omega) c4 hm b1
        have hhas : ¬ v_X0_has (kIx κ) (nI k) = 0 := by rw [has_n _ hk64, if_neg (n_pos1 d2)]; exact n10
        by_cases c : H + 1 ≤ T / 8 * 8 + 96
        · rw [if_pos c] at er ec
          have ex : x_X2_delete κ (nI k) = 0 := by
            rw [hx, hn, if_pos rfl, if_neg hhas]
            exact if_pos er
          have hB : ¬ (if (v_X3_isKey (nI k)) = 0 then 0 else if (mDn μ) = 0 then if ((mIx μ) (nI k).toNatClampNeg) < 0 then 0 else if (v_X3_canAppend μ 1) = 0 then 0 else 1 else 0 : Int32) = 0 := by
            rw [if_neg hA, if_pos hd, nI_clamp (by omega), ← d1, if_neg (n_lt d2), if_neg (show ¬ v_X3_canAppend μ 1 = 0 from by rw [show v_X3_canAppend μ 1 = 1 from ec]; exact n10)]; exact n10
          obtain ⟨sv, hv⟩ := valueOf_eq (hR.th 0) hk64
          have hRa := (hR.th 0).app c (by omega) hk64 (v := -1) (Or.inl rfl)
          have eM : v_X3_delete μ (nI k) = (v_X3_valueOf (mSTh μ 0) (nI k), mapp (mSTh μ 0) k (-1) H) := by
            unfold v_X3_delete
            rw [goes0 hA hB, if_neg g1, appends_n (μ := mSTh μ 0) (by omega) hm, nI_clamp (by omega)]
            unfold mapp
            rw [if_pos rfl]
            rfl
          have eK : v_X2_delete κ (nI k) = (v_X2_valueOf κ (nI k), kapp κ k (-1) H) := by
            unfold v_X2_delete
            rw [if_neg hhas, append_n (by omega) hk64 a1]
          rw [ex, eM, eK]
          refine ⟨?_, rfl, fun _ => ⟨?_, hRa.q (by omega) h9⟩, fun z => absurd rfl z⟩
          · unfold s_X3_delete
            rw [goes0 hA hB]
            exact ⟨⟨fun z => absurd z hA, fun _ => ⟨fun _ => ⟨hin, trivial⟩, fun _ => trivial⟩⟩, fun z => absurd z g1, fun _ => ⟨sv, appends_s (μ := mSTh μ 0) (by omega) hm _ _, hin, trivial⟩⟩
          · rcases hv with ⟨e1, -⟩ | ⟨-, -, e3⟩
            · exact absurd e1 (n_pos1 d2)
            · exact e3
        · rw [if_neg c] at er ec
          have er' : x_X2_needRoom κ 1 = 2 := er
          have ec' : v_X3_canAppend μ 1 = 0 := ec
          refine ref ?_ ?_
          · rw [hx, hn, if_pos rfl, if_neg hhas, er', if_neg (by decide)]
          · rw [if_neg hA, if_pos hd, nI_clamp (by omega), ← d1, if_neg (n_lt d2), if_pos ec']
  · have ex : x_X2_delete κ p = 1 := by
      unfold x_X2_delete
      rw [if_neg hk]; exact key_no hk
    rw [ex]
    unfold s_X3_delete v_X3_delete
    rw [goes1 (isKey0 hk), if_pos g0]
    exact ⟨⟨⟨fun _ => trivial, fun z => absurd (isKey0 hk) z⟩, fun _ => trivial, fun z => absurd g0 z⟩, rfl, fun z => absurd z (by decide), fun _ => hq.th _⟩
theorem sim_synchronize {κ : KS} {μ : MS} {N : Nat} (h : RQ κ μ N) (h9 : N + 96 ≤ 100000) : SIM N (s_X2_synchronize κ) (s_X3_synchronize μ) (x_X2_synchronize κ) (kc1 (x_X2_synchronize κ)) (v_X2_synchronize κ).1 (v_X3_synchronize μ).1 κ (v_X2_synchronize κ).2 (v_X3_synchronize μ).2 := by
  have hq := (h.mono (show N ≤ N + 96 by omega) h9)
  unfold SIM s_X2_synchronize s_X3_synchronize x_X2_synchronize v_X3_synchronize v_X2_synchronize
  rcases h.cases with ⟨hu, hn, hd, -⟩ | ⟨hu, hn, hd, H, T, W, C, hR⟩
  · rw [goes1 (dn1 hd), if_pos g0, hn, if_neg (by decide)]
    exact ⟨fun z => absurd z (by decide), ⟨fun _ => trivial, fun z => absurd g0 z⟩, rfl, fun z => absurd z (by decide), fun _ => hq.th _⟩
  · rw [goes0 (dn0 hd) n10, if_neg g1, hn, if_pos rfl]
    obtain ⟨s1, s2, r⟩ := sync_v (hR.th 0)
    refine ⟨fun _ => ⟨s1, trivial⟩, ⟨fun z => absurd z g1, fun _ => ⟨s2, trivial⟩⟩, ?_⟩
    rcases r with ⟨a, e1, e2⟩ | ⟨v, h1, h2, e1, e2⟩
    · rw [show v_X3_synchronizes ((1, mSTh μ 0) : Int32 × MS).2 = (1, mdone (mSTh μ 0) H a) from e2, e1, if_neg g1]
      exact ⟨rfl, fun _ => ⟨rfl, ((hR.th 0).done a).q (by omega) h9⟩, fun z => absurd rfl z⟩
    · rw [show v_X3_synchronizes ((1, mSTh μ 0) : Int32 × MS).2 = (0, mfail (mSTh μ 0) v) from e2, e1, if_pos g0]
      exact ⟨rfl, fun _ => ⟨rfl, ((hR.th 0).fail h1 (by omega)).q (by omega) h9⟩, fun z => absurd rfl z⟩
theorem sim_crash {κ : KS} {μ : MS} {N : Nat} (h : RQ κ μ N) (h9 : N + 96 ≤ 100000) : SIM N True True (x_X2_crash κ) (kc1 (x_X2_crash κ)) (v_X2_crash κ).1 (v_X3_crash μ).1 κ (v_X2_crash κ).2 (v_X3_crash μ).2 := by
  have hq := (h.mono (show N ≤ N + 96 by omega) h9)
  unfold SIM x_X2_crash v_X3_crash v_X2_crash
  rcases h.cases with ⟨hu, hn, hd, -⟩ | ⟨hu, hn, hd, H, T, W, C, hR⟩
  · rw [goes1 (dn1 hd), if_pos g0, hn, if_neg (by decide)]
    exact ⟨trivial, trivial, rfl, fun z => absurd z (by decide), fun _ => hq.th _⟩
  · rw [goes0 (dn0 hd) n10, if_neg g1, hn, if_pos rfl]
    obtain ⟨⟨⟨a1, a2, a3, a4⟩, ⟨b1, b2, b3, b4⟩, -⟩, -, -, hm, -⟩ := id hR
    refine ⟨trivial, trivial, rfl, fun _ => ⟨?_, ((hR.th 0).crash).q (by omega) h9⟩, fun z => absurd rfl z⟩
    show kHd κ - kWr κ = mHd μ - mWr μ
    rw [a1, a3, hm, b2]
theorem sim_failAfter {κ : KS} {μ : MS} {N : Nat} (h : RQ κ μ N) (h9 : N + 96 ≤ 100000) (p : Int32) : SIM N True True (x_X2_failAfter κ p) (nI (x_X2_failAfter κ p)) 0 0 κ (v_X2_failAfter κ p) (v_X3_failAfter μ p) := by
  have hq := (h.mono (show N ≤ N + 96 by omega) h9)
  have hset : RQ (kSAh κ p) (mSCh (mSTh μ 0) p) (N + 96) := by
    obtain ⟨H, T, W, C, r | r⟩ := hq
    · obtain ⟨⟨x1, ⟨b1, b2, b3, b4⟩, x2⟩, x3⟩ := r
      exact ⟨H, T, W, C, Or.inl ⟨⟨x1, ⟨b1, b2, b3, rfl⟩, x2⟩, x3⟩⟩
    · obtain ⟨⟨x1, ⟨b1, b2, b3, b4⟩, x2⟩, x3⟩ := r
      exact ⟨H, T, W, C, Or.inr ⟨⟨x1, ⟨b1, b2, b3, rfl⟩, x2⟩, x3⟩⟩
  have t1 : (-1 : Int32).toInt = -1 := by decide
  have t0 : (0 : Int32).toInt = 0 := by decide
  have tk : (1000 : Int32).toInt = 1000 := by decide
  have l1 : p < -1 ↔ p.toInt < -1 := by rw [Int32.lt_iff_toInt_lt, t1]
  have l2 : (1000 : Int32) < p ↔ 1000 < p.toInt := by rw [Int32.lt_iff_toInt_lt, tk]
  have l3 : p < 0 ↔ p.toInt < 0 := by rw [Int32.lt_iff_toInt_lt, t0]
  have l4 : p ≤ 1000 ↔ p.toInt ≤ 1000 := by rw [Int32.le_iff_toInt_le, tk]
  have l5 : p = -1 ↔ p.toInt = -1 := by rw [← Int32.toInt_inj, t1]
  have bad : (if p < (-1) then 0 else if 1000 < p then 0 else 1 : Int32) = 0 → x_X2_failAfter κ p = 1 → SIM N True True (x_X2_failAfter κ p) (nI (x_X2_failAfter κ p)) 0 0 κ (v_X2_failAfter κ p) (v_X3_failAfter μ p) := fun a e => by
    unfold SIM
    rw [e]
    unfold v_X3_failAfter
    rw [goes1 a, if_pos g0]
    exact ⟨trivial, trivial, rfl, fun z => absurd z (by decide), fun _ => hq.th _⟩
  have good : ¬ (if p < (-1) then 0 else if 1000 < p then 0 else 1 : Int32) = 0 → x_X2_failAfter κ p = 0 → v_X2_failAfter κ p = kSAh κ p → SIM N True True (x_X2_failAfter κ p) (nI (x_X2_failAfter κ p)) 0 0 κ (v_X2_failAfter κ p) (v_X3_failAfter μ p) := fun a e ev => by
    unfold SIM
    rw [e, ev]
    unfold v_X3_failAfter
    rw [goes0 a n10, if_neg g1]
    exact ⟨trivial, trivial, rfl, fun _ => ⟨rfl, hset⟩, fun z => absurd rfl z⟩
  by_cases h1 : p = -1
  · refine good ?_ ?_ ?_
    · have e := l5.mp h1
      rw [if_neg (fun z => absurd (l1.mp z) (by omega)), if_neg (fun z => absurd (l2.mp z) (by omega))]; exact n10
    · unfold x_X2_failAfter; rw [if_pos h1]
    · unfold v_X2_failAfter; rw [if_pos h1]
  · have e1 : ¬ p.toInt = -1 := fun z => h1 (l5.mpr z)
    by_cases h2 : p < 0
    · have e2 := l3.mp h2
      refine bad ?_ ?_
      · rw [if_pos (l1.mpr (by omega))]
      · unfold x_X2_failAfter; rw [if_neg h1, if_pos h2]
    · have e2 : ¬ p.toInt < 0 := fun z => h2 (l3.mpr z)
      by_cases h3 : p ≤ 1000
      · have e3 := l4.mp h3
        refine good ?_ ?_ ?_
        · rw [if_neg (fun z => absurd (l1.mp z) (by omega)), if_neg (fun z => absurd (l2.mp z) (by omega))]; exact n10
        · unfold x_X2_failAfter; rw [if_neg h1, if_neg h2, if_pos h3]
        · unfold v_X2_failAfter; rw [if_neg h1, if_neg h2, if_pos h3]
      · have e3 : ¬ p.toInt ≤ 1000 := fun z => h3 (l4.mpr z)
        refine bad ?_ ?_
        · rw [if_neg (fun z => absurd (l1.mp z) (by omega)), if_pos (l2.mpr (by omega))]
        · unfold x_X2_failAfter; rw [if_neg h1, if_neg h2, if_neg h3]
theorem sim_wouldHave {κ : KS} {μ : MS} {N : Nat} (h : RQ κ μ N) (h9 : N + 96 ≤ 100000) : SIM0 N (s_X2_wouldHave κ) (s_X3_wouldHave μ) (v_X2_wouldHave κ).1 (v_X3_wouldHave μ).1 (v_X2_wouldHave κ).2 (v_X3_wouldHave μ).2 := by
  have hq := (h.mono (show N ≤ N + 96 by omega) h9)
  obtain ⟨H, T, W, C, r⟩ := h
  have hC : RC κ (mSTh μ 0) N H T W C := r.elim (fun z => z.1) (fun z => z.1)
  obtain ⟨s1, s2, s3, ev, f, g, e1, e2, -⟩ := reco_t hC
  refine ⟨⟨s1, s3, trivial⟩, ⟨s2, trivial⟩, ev, ?_⟩
  show RQ (v_X2_recover_t κ) (v_X3_recovers (mSTh μ 0)).2 (N + 96)
  rw [e1, e2]
  obtain ⟨H, T, W, C, r | r⟩ := hq
  · exact ⟨H, T, W, C, Or.inl r⟩
  · exact ⟨H, T, W, C, Or.inr r⟩
theorem sim_start {κ : KS} {μ : MS} {N : Nat} (h : RQ κ μ N) (h9 : N + 96 ≤ 100000) : SIM N (s_X2_start κ) (s_X3_start μ) (x_X2_start κ) (kc1 (x_X2_start κ)) (v_X2_start κ).1 (v_X3_start μ).1 κ (v_X2_start κ).2 (v_X3_start μ).2 := by
  have hq := (h.mono (show N ≤ N + 96 by omega) h9)
  unfold SIM s_X2_start s_X3_start x_X2_start v_X3_start v_X2_start
  rcases h.cases with ⟨hu, hn, hd, H, T, W, C, hR⟩ | ⟨hu, hn, hd, -⟩
  · rw [goes0 (show ¬ mDn μ = 0 from by rw [hd]; exact n10) n10, if_neg g1, if_pos hu, if_pos hu]
    have hRt := hR.th 0
    obtain ⟨s1, s2, s3, ev, f, g, e1, e2, hX⟩ := reco_i hRt.1
    obtain ⟨sl, g', el, hg⟩ := start_l ((v_X3_recovers ((1, mSTh μ 0) : Int32 × MS).2).1) (mSTr (mSTh μ 0) g) 64 100 0 (mIx μ) (by omega) (by omega) (fun k hk => by omega)
    rw [nI_0] at sl el
    have e0 : mSIx (mSTr (mSTh μ 0) g) (mIx μ) = mSTr (mSTh μ 0) g := rfl
    rw [e0] at sl el
    have e2' : (v_X3_recovers ((1, mSTh μ 0) : Int32 × MS).2).2 = mSTr (mSTh μ 0) g := e2
    rw [e2', el]
    refine ⟨⟨fun _ => ⟨s1, s3, trivial⟩, fun z => absurd hu z⟩, ⟨fun z => absurd z g1, fun _ => ⟨s2, sl, trivial⟩⟩, rfl, fun _ => ⟨ev, ?_⟩, fun z => absurd rfl z⟩
    have hX2 : XV (kLk κ) (kLv κ) f g' T W := fun k hk => by
      obtain ⟨d1, d2⟩ := hX k hk
      exact ⟨d1.trans (hg k hk).symm, d2⟩
    show RQ (kSUp (v_X2_recover_i κ) 1) (mSDn (mSHd (mSIx (mSTr (mSTh μ 0) g) g') (mWr μ)) 0) (N + 96)
    rw [e1, hR.1.2.1.2.1]
    exact (hRt.start hX2).q (by omega) h9
  · rw [goes1 hd, if_pos g0, if_neg (show ¬ kUp κ = 0 from by rw [hu]; exact n10), if_neg (show ¬ kUp κ = 0 from by rw [hu]; exact n10)]
    exact ⟨⟨fun z => absurd z (by rw [hu]; exact n10), fun _ => trivial⟩, ⟨fun _ => trivial, fun z => absurd g0 z⟩, rfl, fun z => absurd z (by decide), fun _ => hq.th _⟩

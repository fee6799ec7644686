-- ===== each call, up or down =====
theorem n10 : ¬ (1 : Int32) = 0 := by decide
theorem up_no {κ : KS} (h : kUp κ = 0) : x_X2_needUp κ = 2 := if_pos h
theorem up_ok {κ : KS} (h : kUp κ = 1) : x_X2_needUp κ = 0 := if_neg (by rw [h]; exact n10)
theorem range_n {i j : Nat} (hij : i ≤ j) (hj : j < 64) : x_X2_needRange (nI i) (nI j) = 0 := by
  unfold x_X2_needRange
  rw [if_pos (key_n (by omega)), if_pos (key_n hj), if_pos (nI_le hij (by omega))]
theorem room_n {κ : KS} {H T : Nat} (c : Nat) (hT : T < 1000000) (hc : c < 1000000) (hH : H ≤ T / 8 * 8 + 96) (h1 : kHd κ = nI H) (h2 : kTl κ = nI T) : x_X2_needRoom κ (nI c) = if H + c ≤ T / 8 * 8 + 96 then 0 else 2 := by
  unfold x_X2_needRoom
  rw [h1, h2, seg_n (by omega)]
  have e1 : nI (T / 8) * 8 = nI (T / 8 * 8) := pk_mul (T / 8) 8
  have e2 : nI (T / 8 * 8) + 96 = nI (T / 8 * 8 + 96) := nI_add (T / 8 * 8) 96
  rw [e1, e2, pk_sub hH]
  by_cases c1 : H + c ≤ T / 8 * 8 + 96
  · rw [if_pos c1, if_pos (nI_le (by omega) (by omega))]
  · rw [if_neg c1, if_neg (nI_ge (by omega) (by omega))]
theorem put_v {κ : KS} {d sf : Nat → Int32} {N H T W C : Nat} (h : IN κ d sf N H T W C) (h9 : N + 96 ≤ 100000) {q v : Nat} (hq : q < 64) (hv : v < 10000) : s_X2_put κ (nI q) (nI v) ∧ ((x_X2_put κ (nI q) (nI v) = 0 ∧ v_X2_put κ (nI q) (nI v) = (nI H, kapp κ q (nI v) H) ∧ IN (kapp κ q (nI v) H) (upd d q (nI v)) sf (N + 96) (H + 1) T W C) ∨ x_X2_put κ (nI q) (nI v) = 2) := by
  obtain ⟨⟨a1, a2, a3, a4, a5, a6⟩, ⟨c1, c2, c3, c4, c5, c6⟩, -⟩ := id h
  have e1 : x_X2_needKey (nI q) = 0 := key_n hq
  have e2 : ¬ nI v < 0 := nI_pos (by omega)
  have e3 : nI v ≤ 9999 := (nI_leI (b := 9999) (by omega) (by decide)).mpr (by omega)
  have e4 : x_X2_needUp κ = 0 := up_ok a1
  have e5 : x_X2_needRoom κ 1 = if H + 1 ≤ T / 8 * 8 + 96 then 0 else 2 := room_n 1 (by omega) (by omega) c4 a3 a4
  refine ⟨fun _ => ⟨fun z => absurd z e2, fun _ => ⟨fun _ _ _ => ⟨append_s _ _ _, trivial⟩, fun z => absurd e3 z⟩⟩, ?_⟩
  have hx : x_X2_put κ (nI q) (nI v) = if x_X2_needRoom κ 1 = 0 then 0 else x_X2_needRoom κ 1 := by
    unfold x_X2_put
    rw [if_pos e1, if_neg e2, if_pos e3, if_pos e4]
  by_cases c : H + 1 ≤ T / 8 * 8 + 96
  · rw [if_pos c] at e5
    refine Or.inl ⟨by rw [hx, e5]; rfl, ?_, (h.app c (by omega) hq (Or.inr ⟨v, hv, rfl⟩)).mono (by omega) h9⟩
    unfold v_X2_put
    rw [if_neg e2, if_pos e3, append_n (by omega) hq a3]
  · rw [if_neg c] at e5
    exact Or.inr (by rw [hx, e5]; rfl)
theorem delete_v {κ : KS} {d sf : Nat → Int32} {N H T W C : Nat} (h : IN κ d sf N H T W C) (h9 : N + 96 ≤ 100000) {q : Nat} (hq : q < 64) : s_X2_delete κ (nI q) ∧ ((x_X2_delete κ (nI q) = 0 ∧ ∃ u, u < 10000 ∧ d q = nI u ∧ v_X2_delete κ (nI q) = (nI u, kapp κ q (-1) H) ∧ IN (kapp κ q (-1) H) (upd d q (-1)) sf (N + 96) (H + 1) T W C) ∨ x_X2_delete κ (nI q) = 2) := by
  obtain ⟨⟨a1, a2, a3, a4, a5, a6⟩, ⟨c1, c2, c3, c4, c5, c6⟩, hI, hC, hX, -⟩ := id h
  have e1 : x_X2_needKey (nI q) = 0 := key_n hq
  have e4 : x_X2_needUp κ = 0 := up_ok a1
  have e5 : x_X2_needRoom κ 1 = if H + 1 ≤ T / 8 * 8 + 96 then 0 else 2 := room_n 1 (by omega) (by omega) c4 a3 a4
  have e6 := has_n (kIx κ) hq
  refine ⟨fun _ _ => ⟨fun _ => trivial, fun _ _ => ⟨valueOf_s _ _, append_s _ _ _, trivial⟩⟩, ?_⟩
  have hx : x_X2_delete κ (nI q) = if v_X0_has (kIx κ) (nI q) = 0 then 2 else if x_X2_needRoom κ 1 = 0 then 0 else x_X2_needRoom κ 1 := by
    unfold x_X2_delete
    rw [if_pos e1, if_pos e4]
  by_cases g : kIx κ q = -1
  · rw [if_pos g] at e6
    exact Or.inr (by rw [hx, e6]; rfl)
  · rw [if_neg g] at e6
    rw [e6, if_neg n10] at hx
    by_cases c : H + 1 ≤ T / 8 * 8 + 96
    · rw [if_pos c] at e5
      rcases hX.due (by omega) hq with ⟨z, -⟩ | ⟨-, u, hu, hd⟩
      · exact absurd z g
      · refine Or.inl ⟨by rw [hx, e5]; rfl, u, hu, hd, ?_, (h.app c (by omega) hq (Or.inl rfl)).mono (by omega) h9⟩
        unfold v_X2_delete
        rw [e6, if_neg n10, append_n (by omega) hq a3, val_d hX (by omega) hq g, hd]
    · rw [if_neg c] at e5
      exact Or.inr (by rw [hx, e5]; rfl)
theorem get_v {κ : KS} {d sf : Nat → Int32} {N H T W C : Nat} (h : IN κ d sf N H T W C) {q : Nat} (hq : q < 64) : s_X2_get κ (nI q) ∧ x_X2_get κ (nI q) = 0 ∧ v_X2_get κ (nI q) = d q := by
  obtain ⟨⟨a1, a2, a3, a4, a5, a6⟩, ⟨c1, c2, c3, c4, c5, c6⟩, hI, hC, hX, -⟩ := id h
  have e6 := has_n (kIx κ) hq
  refine ⟨fun _ _ => ⟨fun _ => trivial, fun _ => ⟨valueOf_s _ _, trivial⟩⟩, ?_, ?_⟩
  · unfold x_X2_get
    rw [if_pos (key_n hq), up_ok a1]
    rfl
  · unfold v_X2_get
    rcases hX.due (by omega) hq with ⟨z, z2⟩ | ⟨g, u, hu, hd⟩
    · rw [e6, if_pos z, z2, if_pos rfl]
    · rw [e6, if_neg g, if_neg n10, val_d hX (by omega) hq g]
theorem get_d {κ : KS} {sf : Nat → Int32} {N T W C : Nat} (h : ID κ sf N T W C) {q : Nat} (hq : q < 64) : s_X2_get κ (nI q) ∧ x_X2_get κ (nI q) = 2 := by
  obtain ⟨⟨a1, a2, a3, a4, a5, a6⟩, -⟩ := id h
  refine ⟨fun _ _ => ⟨fun _ => trivial, fun _ => ⟨valueOf_s _ _, trivial⟩⟩, ?_⟩
  unfold x_X2_get
  rw [if_pos (key_n hq), up_no a1]
  rfl
theorem next_v {κ : KS} {d sf : Nat → Int32} {N H T W C : Nat} (h : IN κ d sf N H T W C) {q : Nat} (hq : q < 64) : s_X2_next κ (nI q) ∧ x_X2_next κ (nI q) = 0 ∧ v_X2_next κ (nI q) = nx (kIx κ) (64 - q) q := by
  obtain ⟨⟨a1, a2, a3, a4, a5, a6⟩, -⟩ := id h
  have h1 := nextk_l κ (nI q) (64 - q) 100 q (by omega) (by omega)
  refine ⟨fun _ _ => ⟨h1.1, trivial⟩, ?_, h1.2⟩
  unfold x_X2_next
  rw [if_pos (key_n hq), up_ok a1]
  rfl
theorem sum_v {κ : KS} {d sf : Nat → Int32} {N H T W C : Nat} (h : IN κ d sf N H T W C) : s_X2_sum κ 0 63 ∧ x_X2_sum κ 0 63 = 0 ∧ v_X2_sum κ 0 63 = SM d 64 := by
  obtain ⟨⟨a1, a2, a3, a4, a5, a6⟩, ⟨c1, c2, c3, c4, c5, c6⟩, hI, hC, hX, -⟩ := id h
  have h1 := sum_l hX (by omega) 0 64 100 0 (by omega) (by omega)
  rw [nI_0] at h1
  refine ⟨fun _ _ => ⟨h1.1, trivial⟩, ?_, h1.2⟩
  unfold x_X2_sum
  rw [show x_X2_needRange 0 63 = 0 from range_n (i := 0) (j := 63) (by omega) (by omega), up_ok a1]
  rfl
theorem fetches_v {κ : KS} {d sf : Nat → Int32} {N H T W C : Nat} (h : IN κ d sf N H T W C) {fr t : Nat} (hft : fr ≤ t) (ht : t < 64) : s_X2_fetches κ (nI fr) (nI t) ∧ x_X2_fetches κ (nI fr) (nI t) = 0 ∧ v_X2_fetches κ (nI fr) (nI t) = nI (FT (kIx κ) T (t + 1 - fr) fr) := by
  obtain ⟨⟨a1, a2, a3, a4, a5, a6⟩, ⟨c1, c2, c3, c4, c5, c6⟩, hI, hC, hX, -⟩ := id h
  have h1 := fet_v hX.xp c4 (by omega) (by omega) a4 hft ht
  refine ⟨fun _ _ => ⟨h1.1, trivial⟩, ?_, h1.2⟩
  unfold x_X2_fetches
  rw [range_n hft ht, up_ok a1]
  rfl
theorem sync_op {κ : KS} {d sf : Nat → Int32} {N H T W C : Nat} (h : IN κ d sf N H T W C) : s_X2_synchronize κ ∧ x_X2_synchronize κ = 0 ∧ v_X2_synchronize κ = (1, kSWr κ (nI H)) := by
  obtain ⟨s1, r⟩ := sync_v h
  refine ⟨fun _ => ⟨s1, trivial⟩, ?_, ?_⟩
  · unfold x_X2_synchronize
    rw [up_ok h.1.1]
    rfl
  · unfold v_X2_synchronize
    rw [r]
theorem ckpt_op {κ : KS} {d sf : Nat → Int32} {N H T W C : Nat} (h : IN κ d sf N H T W C) : s_X2_checkpoint κ ∧ x_X2_checkpoint κ = 0 ∧ ∃ κ', v_X2_checkpoint κ = (1, κ') ∧ IN κ' d d N H T H H := by
  obtain ⟨s1, r⟩ := sync_v h
  have hR := h.sync
  have w1 : v_X2_writeOnce (kSWr κ (nI H)) = (1, kSWr κ (nI H)) := write_1 hR.1.2.1
  obtain ⟨tS, tV⟩ := takeFrom_v (kIx (kSWr κ (nI H))) (kCi (kSWr κ (nI H)))
  have k1 : ¬ ((1, kSWr κ (nI H)) : Int32 × KS).1 = 0 := n10
  refine ⟨?_, ?_, kSCt (kSCi (kSWr κ (nI H)) (v_X0_takeFrom (kIx (kSWr κ (nI H))) (kCi (kSWr κ (nI H))))) (nI H), ?_, hR.ckpt tV⟩
  · intro _
    rw [r]
    show s_X2_writeEntries κ ∧ ((_ → True) ∧ (_ → ((v_X2_writeOnce (kSWr κ (nI H))).1 = 0 → True) ∧ (¬ (v_X2_writeOnce (kSWr κ (nI H))).1 = 0 → s_X0_takeFrom (kIx (v_X2_writeOnce (kSWr κ (nI H))).2) (kCi (v_X2_writeOnce (kSWr κ (nI H))).2) ∧ True)))
    rw [w1]
    exact ⟨s1, fun _ => trivial, fun _ => ⟨fun _ => trivial, fun _ => ⟨tS, trivial⟩⟩⟩
  · unfold x_X2_checkpoint
    rw [up_ok h.1.1]
    rfl
  · unfold v_X2_checkpoint
    rw [r, if_neg k1]
    show (if (v_X2_writeOnce (kSWr κ (nI H))).1 = 0 then (0, (v_X2_writeOnce (kSWr κ (nI H))).2) else (1, kSCt (kSCi (v_X2_writeOnce (kSWr κ (nI H))).2 (v_X0_takeFrom (kIx (v_X2_writeOnce (kSWr κ (nI H))).2) (kCi (v_X2_writeOnce (kSWr κ (nI H))).2))) (kHd (v_X2_writeOnce (kSWr κ (nI H))).2)) : Int32 × KS) = _
    rw [w1, if_neg k1]
    show (1, kSCt (kSCi (kSWr κ (nI H)) (v_X0_takeFrom (kIx (kSWr κ (nI H))) (kCi (kSWr κ (nI H))))) (kHd κ)) = _
    rw [h.1.2.2.1]
theorem live_v {κ : KS} {d sf : Nat → Int32} {N H T W C e : Nat} (h : IN κ d sf N H T W C) (he : T + e ≤ H) : s_X2_liveFromTail κ (nI e) ∧ v_X2_liveFromTail κ (nI e) = nI (cnt (lvb (kLk κ) (kIx κ)) e T) := by
  obtain ⟨⟨a1, a2, a3, a4, a5, a6⟩, ⟨c1, c2, c3, c4, c5, c6⟩, hI, hC, hX, -⟩ := id h
  have h1 := live_l κ (nI e) hI (by omega) he e 100 T 0 rfl (by omega) (Nat.le_refl _)
  rw [nI_0, Nat.zero_add] at h1
  unfold s_X2_liveFromTail v_X2_liveFromTail
  rw [a4, nI_add]
  exact ⟨⟨h1.1, trivial⟩, h1.2⟩
/-- as many live entries as keys are due -/
theorem live_MN {κ : KS} {d sf : Nat → Int32} {N H T W C : Nat} (h : IN κ d sf N H T W C) : cnt (lvb (kLk κ) (kIx κ)) (H - T) T = MN d 64 := by
  obtain ⟨⟨a1, a2, a3, a4, a5, a6⟩, ⟨c1, c2, c3, c4, c5, c6⟩, hI, hC, hX, -⟩ := id h
  rw [live_keys hI hX.xp (by omega) (H - T) T (by omega) (Nat.le_refl _)]
  refine fb_ct_cong (fun k hk => decide_eq_decide.mpr ?_)
  rcases hX k hk with ⟨z, z2⟩ | ⟨p, u, f1, f2, f3, f4, f5, f6, f7⟩
  · rw [z, z2]
    exact ⟨fun y => absurd y (m1lt (by omega)), fun y => absurd y n_nle1⟩
  · rw [f1, f7]
    exact ⟨fun _ => nI_pos' (by omega), fun _ => nI_le f2 (by omega)⟩
theorem live_op {κ : KS} {d sf : Nat → Int32} {N H T W C : Nat} (h : IN κ d sf N H T W C) : s_X2_live κ ∧ x_X2_live κ = 0 ∧ v_X2_live κ = nI (MN d 64) ∧ MN d 64 ≤ H - T := by
  obtain ⟨⟨a1, a2, a3, a4, a5, a6⟩, ⟨c1, c2, c3, c4, c5, c6⟩, hI, hC, hX, -⟩ := id h
  have e : kHd κ - kTl κ = nI (H - T) := by rw [a3, a4, pk_sub (by omega)]
  obtain ⟨s1, v1⟩ := live_v h (e := H - T) (by omega)
  have h2 := live_MN h
  refine ⟨?_, ?_, ?_, ?_⟩
  · intro _
    rw [e]
    exact ⟨s1, trivial⟩
  · unfold x_X2_live
    rw [up_ok a1]
    rfl
  · unfold v_X2_live
    rw [e, v1, h2]
  · rw [← h2]
    exact cnt_le _ _ _
theorem coll_op {κ : KS} {d sf : Nat → Int32} {N H T W C : Nat} (h : IN κ d sf N H T W C) (h9 : N + 96 ≤ 100000) {e : Nat} (he1 : 1 ≤ e) (he : e ≤ 96) : s_X2_collect κ (nI e) ∧ ((x_X2_collect κ (nI e) = 0 ∧ ∃ κ' H', v_X2_collect κ (nI e) = (1, κ') ∧ IN κ' d d (N + 96) H' (T + e) H' C) ∨ x_X2_collect κ (nI e) = 2) := by
  obtain ⟨⟨a1, a2, a3, a4, a5, a6⟩, ⟨c1, c2, c3, c4, c5, c6⟩, hI, hC, hX, -⟩ := id h
  have e1 : ¬ nI e < 1 := fun z => absurd z (show ¬ nI e < nI 1 from nI_nlt he1 (by omega))
  have e2 : nI e ≤ 96 := (nI_leI (b := 96) (by omega) (by decide)).mpr he
  have e3 : kHd κ - kTl κ = nI (H - T) := by rw [a3, a4, pk_sub (by omega)]
  have e4 : x_X2_needUp κ = 0 := up_ok a1
  have hx : x_X2_collect κ (nI e) = if nI e ≤ nI (H - T) then if x_X2_needRoom κ (v_X2_liveFromTail κ (nI e)) = 0 then 0 else x_X2_needRoom κ (v_X2_liveFromTail κ (nI e)) else 2 := by
    unfold x_X2_collect
    rw [if_neg e1, if_pos e2, if_pos e4, e3]
  by_cases c : T + e ≤ H
  · have g : nI e ≤ nI (H - T) := nI_le (by omega) (by omega)
    rw [if_pos g] at hx
    obtain ⟨s1, v1⟩ := live_v h c
    have hcl := cnt_le (lvb (kLk κ) (kIx κ)) e T
    have e5 := room_n (κ := κ) (cnt (lvb (kLk κ) (kIx κ)) e T) (by omega) (by omega) c4 a3 a4
    rw [← v1] at e5
    by_cases r : H + cnt (lvb (kLk κ) (kIx κ)) e T ≤ T / 8 * 8 + 96
    · rw [if_pos r] at e5
      obtain ⟨s2, κ1, H1, l1, l2, l3, l4⟩ := coll_l (T := T) (E := T + e) (nI e) e 100 T N H κ h rfl (Nat.le_refl _) c (by omega) r (by omega) (fun k hk => by
        rcases hX k hk with ⟨z, -⟩ | ⟨p, u, f1, f2, f3, -⟩
        · exact Or.inl z
        · exact Or.inr ⟨p, f1, f2, by omega⟩)
      have vA : v_X2_appendLiveAgain κ (nI e) = κ1 := by
        unfold v_X2_appendLiveAgain
        rw [a4, nI_add]
        exact l1
      have sA : s_X2_appendLiveAgain κ (nI e) := by
        unfold s_X2_appendLiveAgain
        rw [a4, nI_add]
        exact ⟨s2, trivial⟩
      obtain ⟨s3, r3⟩ := sync_v l3
      have hR := l3.sync
      have w1 : v_X2_writeOnce (kSWr κ1 (nI H1)) = (1, kSWr κ1 (nI H1)) := write_1 hR.1.2.1
      have k1 : ¬ ((1, kSWr κ1 (nI H1)) : Int32 × KS).1 = 0 := n10
      refine ⟨⟨fun z => absurd z e1, fun _ => ⟨fun _ _ => ⟨fun _ => ⟨s1, fun _ => ⟨sA, by rw [vA]; exact s3, trivial⟩⟩, fun _ => trivial⟩, fun z => absurd e2 z⟩⟩, Or.inl ⟨by rw [hx, e5]; rfl, kSTl (kSWr κ1 (nI H1)) (nI (T + e)), H1, ?_, (hR.tail (by omega) l4).mono (by omega) h9⟩⟩
      unfold v_X2_collect
      rw [if_neg e1, if_pos e2, e3, if_pos g, vA, r3, if_neg k1]
      show (if (v_X2_writeOnce (kSWr κ1 (nI H1))).1 = 0 then (0, (v_X2_writeOnce (kSWr κ1 (nI H1))).2) else (1, kSTl (v_X2_writeOnce (kSWr κ1 (nI H1))).2 (kTl (v_X2_writeOnce (kSWr κ1 (nI H1))).2 + nI e)) : Int32 × KS) = _
      rw [w1, if_neg k1]
      show (1, kSTl (kSWr κ1 (nI H1)) (kTl κ1 + nI e)) = ((1, kSTl (kSWr κ1 (nI H1)) (nI (T + e))) : Int32 × KS)
      rw [l3.1.2.2.2.1, nI_add]
    · rw [if_neg r] at e5
      refine ⟨⟨fun z => absurd z e1, fun _ => ⟨fun _ _ => ⟨fun _ => ⟨s1, fun z => ?_⟩, fun _ => trivial⟩, fun z => absurd e2 z⟩⟩, Or.inr (by rw [hx, e5]; rfl)⟩
      rw [e5] at z
      cases z
  · have g : ¬ nI e ≤ nI (H - T) := nI_ge (by omega) (by omega)
    rw [if_neg g] at hx
    refine ⟨⟨fun z => absurd z e1, fun _ => ⟨fun _ _ => ⟨fun z => ?_, fun _ => trivial⟩, fun z => absurd e2 z⟩⟩, Or.inr hx⟩
    rw [e3] at z
    exact absurd z g
theorem crash_op {κ : KS} {d sf : Nat → Int32} {N H T W C : Nat} (h : IN κ d sf N H T W C) : x_X2_crash κ = 0 ∧ v_X2_crash κ = (nI (H - W), v_X2_losePower κ) := by
  obtain ⟨⟨a1, a2, a3, a4, a5, a6⟩, ⟨c1, c2, c3, c4, c5, c6⟩, -⟩ := id h
  refine ⟨?_, ?_⟩
  · unfold x_X2_crash
    rw [up_ok a1]
    rfl
  · unfold v_X2_crash
    rw [a3, a5, pk_sub c2]
theorem start_op {κ : KS} {sf : Nat → Int32} {N T W C : Nat} (h : ID κ sf N T W C) : s_X2_start κ ∧ x_X2_start κ = 0 ∧ ∃ κ', v_X2_start κ = (nI (MN sf 64), κ') ∧ IN κ' sf sf N W T W C := by
  obtain ⟨s1, s2, v1, f, e1, hf⟩ := reco_i h.ir
  have hu : kUp κ = 0 := h.1.1
  refine ⟨⟨fun _ => ⟨s1, s2, trivial⟩, fun z => absurd hu z⟩, if_pos hu, kSUp (kSIx κ f) 1, ?_, h.start hf⟩
  unfold v_X2_start
  rw [if_pos hu, v1, e1]
theorem would_op {κ : KS} {sf : Nat → Int32} {T W C : Nat} (h : IR κ sf T W C) : s_X2_wouldHave κ ∧ ∃ f, v_X2_wouldHave κ = (nI (MN sf 64), kSTr κ f) := by
  obtain ⟨s1, s2, v1, f, e1, hf⟩ := reco_t h
  refine ⟨⟨s1, s2, trivial⟩, f, ?_⟩
  unfold v_X2_wouldHave
  rw [v1, e1]
theorem pos_op {κ : KS} {d sf : Nat → Int32} {N H T W C : Nat} (h : IN κ d sf N H T W C) {q : Nat} (hq : q < 64) : x_X2_positionOf κ (nI q) = 0 ∧ v_X2_positionOf κ (nI q) = kIx κ q := by
  refine ⟨?_, find_n _ hq⟩
  unfold x_X2_positionOf
  rw [if_pos (key_n hq), up_ok h.1.1]
  rfl
/-- how many segments -/
def SG (T H : Nat) : Nat := if T < H then (H - 1) / 8 - T / 8 + 1 else 0
theorem seg_op {κ : KS} {d sf : Nat → Int32} {N H T W C : Nat} (h : IN κ d sf N H T W C) : v_X2_segments κ = nI (SG T H) ∧ SG T H ≤ 12 := by
  obtain ⟨⟨a1, a2, a3, a4, a5, a6⟩, ⟨c1, c2, c3, c4, c5, c6⟩, -⟩ := id h
  unfold v_X2_segments SG
  rw [a3, a4]
  by_cases c : T < H
  · obtain ⟨g, rfl⟩ : ∃ g, H = g + 1 := ⟨H - 1, by omega⟩
    rw [if_pos (nI_lt c (by omega)), if_pos c, nI_pred, seg_n (by omega), seg_n (by omega), pk_sub (by omega), nI_1]
    exact ⟨rfl, by omega⟩
  · rw [if_neg (nI_nlt (by omega) (by omega)), if_neg c]
    exact ⟨nI_0.symm, by omega⟩
/-- how many entries free the tail's segment -/
theorem free_op {κ : KS} {d sf : Nat → Int32} {N H T W C : Nat} (h : IN κ d sf N H T W C) : v_X2_toFree κ = -1 ∨ ∃ f, v_X2_toFree κ = nI f ∧ 1 ≤ f ∧ f ≤ 8 ∧ (T + f) % 8 = 0 := by
  obtain ⟨⟨a1, a2, a3, a4, a5, a6⟩, ⟨c1, c2, c3, c4, c5, c6⟩, -⟩ := id h
  unfold v_X2_toFree
  have e1 : (nI (T / 8) + 1) * 8 = nI ((T / 8 + 1) * 8) := by rw [nI_1]; exact pk_mul (T / 8 + 1) 8
  rw [a3, a4, seg_n (by omega), e1, pk_sub (by omega), pk_sub (by omega)]
  by_cases c : nI (H - T) < nI ((T / 8 + 1) * 8 - T)
  · rw [if_pos c]
    exact Or.inl rfl
  · rw [if_neg c]
    exact Or.inr ⟨_, rfl, by omega, by omega, by omega⟩
/-- fetches of all keys: how they stand to what is due and to the segments -/
theorem fet_all {κ : KS} {d sf : Nat → Int32} {N H T W C : Nat} (h : IN κ d sf N H T W C) : FT (kIx κ) T 64 0 ≤ SG T H ∧ FT (kIx κ) T 64 0 ≤ MN d 64 ∧ (MN d 64 = 0 ↔ FT (kIx κ) T 64 0 = 0) := by
  obtain ⟨⟨a1, a2, a3, a4, a5, a6⟩, ⟨c1, c2, c3, c4, c5, c6⟩, hI, hC, hX, -⟩ := id h
  have k1 := FT_keys (kIx κ) T 64 0
  have k2 : cnt (fun k => decide (¬ kIx κ k = -1)) 64 0 = MN d 64 := by
    rw [cnt_fb]
    refine fb_ct_cong (fun k hk => ?_)
    rw [Nat.zero_add]
    refine decide_eq_decide.mpr ?_
    rcases hX.due (by omega) hk with ⟨e1, e2⟩ | ⟨e1, v, e2, e3⟩
    · rw [e1, e2]
      exact ⟨fun z => absurd rfl z, fun z => absurd z n_nle1⟩
    · rw [e3]
      exact ⟨fun _ => nI_pos' (by omega), fun _ => e1⟩
  rw [k2] at k1
  refine ⟨FT_seg hX.xp (by omega) c4 (by omega), k1, fun z => by omega, fun z => ?_⟩
  refine Classical.byContradiction fun hne => ?_
  obtain ⟨k, hk, hp⟩ := fb_ct_pos.mp (show 0 < MN d 64 by omega)
  have h0 := of_decide_eq_true hp
  rcases hX.due (by omega) hk with ⟨e1, e2⟩ | ⟨e1, v, e2, e3⟩
  · rw [e2] at h0
    exact absurd h0 n_nle1
  · have := FT_pos hX.xp (by omega) c4 (i := 0) (j := 64) (by omega) (by omega) (by omega) e1
    omega

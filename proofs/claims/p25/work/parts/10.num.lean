/-! ===== how many places have a property ===== -/
def fb_ct (p : Nat → Bool) : Nat → Nat
  | 0 => 0
  | n + 1 => fb_ct p n + (if p n then 1 else 0)
theorem fb_ct_succ (p : Nat → Bool) (n : Nat) : fb_ct p (n + 1) = fb_ct p n + (if p n then 1 else 0) := rfl
theorem fb_ct_le (p : Nat → Bool) : ∀ n, fb_ct p n ≤ n
  | 0 => Nat.le_refl _
  | n + 1 => by
    have h := fb_ct_le p n
    rw [fb_ct_succ]
    split <;> omega
theorem fb_ct_step (p : Nat → Bool) (m : Nat) : ∀ n, fb_ct p m ≤ fb_ct p (m + n)
  | 0 => Nat.le_refl _
  | n + 1 => by
    have h := fb_ct_step p m n
    show fb_ct p m ≤ fb_ct p (m + n + 1)
    rw [fb_ct_succ]
    omega
theorem fb_ct_mono (p : Nat → Bool) {m n : Nat} (h : m ≤ n) : fb_ct p m ≤ fb_ct p n := by
  have := fb_ct_step p m (n - m)
  rwa [Nat.add_sub_cancel' h] at this
theorem fb_ct_cong {p q : Nat → Bool} : ∀ {n : Nat}, (∀ k, k < n → p k = q k) → fb_ct p n = fb_ct q n
  | 0, _ => rfl
  | n + 1, h => by
    rw [fb_ct_succ, fb_ct_succ, fb_ct_cong (fun k hk => h k (by omega)), h n (by omega)]
/-- one place changed -/
theorem fb_ct_out (p : Nat → Bool) (b : Bool) {i n : Nat} (h : n ≤ i) : fb_ct (fun k => if k = i then b else p k) n = fb_ct p n :=
  fb_ct_cong fun k hk => if_neg (by omega)
theorem fb_ct_upd (p : Nat → Bool) (b : Bool) {i : Nat} : ∀ {n : Nat}, i < n → fb_ct (fun k => if k = i then b else p k) n + (if p i then 1 else 0) = fb_ct p n + (if b then 1 else 0)
  | 0, h => absurd h (Nat.not_lt_zero i)
  | n + 1, h => by
    rw [fb_ct_succ, fb_ct_succ]
    rcases Nat.lt_or_ge i n with q | q
    · have := fb_ct_upd p b q
      have e : (if n = i then b else p n) = p n := if_neg (by omega)
      rw [e]
      omega
    · have e : i = n := by omega
      subst e
      rw [fb_ct_out p b (Nat.le_refl _)]
      simp only [if_true]
      omega
theorem fb_ct_sub {p q : Nat → Bool} : ∀ {n : Nat}, (∀ k, k < n → p k = true → q k = true) → fb_ct p n ≤ fb_ct q n
  | 0, _ => Nat.le_refl _
  | n + 1, h => by
    have h1 := fb_ct_sub (n := n) (p := p) (q := q) (fun k hk => h k (by omega))
    have h2 := h n (by omega)
    rw [fb_ct_succ, fb_ct_succ]
    cases hp : p n <;> cases hq : q n <;> simp_all <;> omega
theorem fb_ct_or {p q : Nat → Bool} : ∀ {n : Nat}, (∀ k, k < n → ¬ (p k = true ∧ q k = true)) → fb_ct (fun k => p k || q k) n = fb_ct p n + fb_ct q n
  | 0, _ => rfl
  | n + 1, h => by
    have h1 := fb_ct_or (n := n) (p := p) (q := q) (fun k hk => h k (by omega))
    have h2 := h n (by omega)
    rw [fb_ct_succ, fb_ct_succ, fb_ct_succ, h1]
    cases hp : p n <;> cases hq : q n <;> simp_all <;> omega
theorem fb_ct_not (p : Nat → Bool) : ∀ n, fb_ct p n + fb_ct (fun k => !p k) n = n
  | 0 => rfl
  | n + 1 => by
    have h := fb_ct_not p n
    rw [fb_ct_succ, fb_ct_succ]
    cases p n <;> simp <;> omega
theorem fb_ct_split (p : Nat → Bool) (m : Nat) : ∀ n, fb_ct p (m + n) = fb_ct p m + fb_ct (fun k => p (m + k)) n
  | 0 => rfl
  | n + 1 => by
    have h := fb_ct_split p m n
    show fb_ct p (m + n + 1) = _
    rw [fb_ct_succ, fb_ct_succ, h, Nat.add_assoc]
theorem fb_ct_zero {p : Nat → Bool} : ∀ {n : Nat}, fb_ct p n = 0 ↔ ∀ k, k < n → p k = false
  | 0 => ⟨fun _ k hk => absurd hk (Nat.not_lt_zero k), fun _ => rfl⟩
  | n + 1 => by
    have h := fb_ct_zero (p := p) (n := n)
    rw [fb_ct_succ]
    constructor
    · intro e k hk
      have e1 : fb_ct p n = 0 := by omega
      rcases Nat.lt_or_ge k n with q | q
      · exact h.mp e1 k q
      · have ek : k = n := by omega
        subst ek
        cases hp : p k
        · rfl
        · simp [hp] at e
    · intro a
      rw [h.mpr (fun k hk => a k (by omega)), a n (by omega)]
      rfl
theorem fb_ct_pos {p : Nat → Bool} {n : Nat} : 0 < fb_ct p n ↔ ∃ k, k < n ∧ p k = true := by
  constructor
  · intro h
    refine Classical.byContradiction fun hx => ?_
    have := fb_ct_zero.mpr (fun k hk => by
      cases hp : p k
      · rfl
      · exact absurd ⟨k, hk, hp⟩ hx : ∀ k, k < n → p k = false)
    omega
  · rintro ⟨k, hk, hp⟩
    rcases Nat.eq_zero_or_pos (fb_ct p n) with e | e
    · have := fb_ct_zero.mp e k hk
      rw [this] at hp
      cases hp
    · exact e
theorem fb_ct_all {p : Nat → Bool} {n : Nat} : fb_ct p n = n ↔ ∀ k, k < n → p k = true := by
  have h := fb_ct_not p n
  constructor
  · intro e k hk
    have z : fb_ct (fun k => !p k) n = 0 := by omega
    have := fb_ct_zero.mp z k hk
    cases hp : p k
    · simp [hp] at this
    · rfl
  · intro a
    have z : fb_ct (fun k => !p k) n = 0 := fb_ct_zero.mpr (fun k hk => by simp [a k hk])
    omega
/-- the k-th place with the property -/
theorem fb_ct_kth {p : Nat → Bool} {k : Nat} : ∀ {n : Nat}, k < fb_ct p n → ∃ i, i < n ∧ p i = true ∧ fb_ct p i = k
  | 0, h => absurd h (Nat.not_lt_zero k)
  | n + 1, h => by
    rcases Nat.lt_or_ge k (fb_ct p n) with q | q
    · obtain ⟨i, h1, h2⟩ := fb_ct_kth q
      exact ⟨i, by omega, h2⟩
    · rw [fb_ct_succ] at h
      cases hp : p n
      · simp [hp] at h; omega
      · simp [hp] at h
        exact ⟨n, by omega, hp, by omega⟩
theorem fb_ct_kth_one {p : Nat → Bool} {i j : Nat} (hi : p i = true) (hj : p j = true) (e : fb_ct p i = fb_ct p j) : i = j := by
  have key : ∀ a b : Nat, a < b → p a = true → fb_ct p a < fb_ct p b := by
    intro a b hab ha
    have h := fb_ct_mono p (show a + 1 ≤ b from hab)
    rw [fb_ct_succ, ha] at h
    simp at h
    omega
  rcases Nat.lt_trichotomy i j with q | q | q
  · have := key i j q hi; omega
  · exact q
  · have := key j i q hj; omega
theorem fb_xorI (a b : Nat) : nI a ^^^ nI b = nI (a ^^^ b) := by
  apply Int32.toBitVec_inj.1
  show BitVec.ofNat 32 a ^^^ BitVec.ofNat 32 b = BitVec.ofNat 32 (a ^^^ b)
  apply BitVec.eq_of_getLsbD_eq
  intro i hi
  simp [hi]
theorem kLk_Lk (z : KS) (v : Nat → Int32) : kLk (kSLk z v) = v := rfl
theorem kLv_Lk (z : KS) (v : Nat → Int32) : kLv (kSLk z v) = kLv z := rfl
theorem kIx_Lk (z : KS) (v : Nat → Int32) : kIx (kSLk z v) = kIx z := rfl
theorem kCi_Lk (z : KS) (v : Nat → Int32) : kCi (kSLk z v) = kCi z := rfl
theorem kTr_Lk (z : KS) (v : Nat → Int32) : kTr (kSLk z v) = kTr z := rfl
theorem kUp_Lk (z : KS) (v : Nat → Int32) : kUp (kSLk z v) = kUp z := rfl
theorem kHd_Lk (z : KS) (v : Nat → Int32) : kHd (kSLk z v) = kHd z := rfl
theorem kTl_Lk (z : KS) (v : Nat → Int32) : kTl (kSLk z v) = kTl z := rfl
theorem kWr_Lk (z : KS) (v : Nat → Int32) : kWr (kSLk z v) = kWr z := rfl
theorem kCt_Lk (z : KS) (v : Nat → Int32) : kCt (kSLk z v) = kCt z := rfl
theorem kAh_Lk (z : KS) (v : Nat → Int32) : kAh (kSLk z v) = kAh z := rfl
theorem kSLk_s (z : KS) (v w : Nat → Int32) : kSLk (kSLk z v) w = kSLk z w := rfl
theorem kSLk_i (z : KS) : kSLk z (kLk z) = z := rfl
theorem kLk_Lv (z : KS) (v : Nat → Int32) : kLk (kSLv z v) = kLk z := rfl
theorem kLv_Lv (z : KS) (v : Nat → Int32) : kLv (kSLv z v) = v := rfl
theorem kIx_Lv (z : KS) (v : Nat → Int32) : kIx (kSLv z v) = kIx z := rfl
theorem kCi_Lv (z : KS) (v : Nat → Int32) : kCi (kSLv z v) = kCi z := rfl
theorem kTr_Lv (z : KS) (v : Nat → Int32) : kTr (kSLv z v) = kTr z := rfl
theorem kUp_Lv (z : KS) (v : Nat → Int32) : kUp (kSLv z v) = kUp z := rfl
theorem kHd_Lv (z : KS) (v : Nat → Int32) : kHd (kSLv z v) = kHd z := rfl
theorem kTl_Lv (z : KS) (v : Nat → Int32) : kTl (kSLv z v) = kTl z := rfl
theorem kWr_Lv (z : KS) (v : Nat → Int32) : kWr (kSLv z v) = kWr z := rfl
theorem kCt_Lv (z : KS) (v : Nat → Int32) : kCt (kSLv z v) = kCt z := rfl
theorem kAh_Lv (z : KS) (v : Nat → Int32) : kAh (kSLv z v) = kAh z := rfl
theorem kSLv_s (z : KS) (v w : Nat → Int32) : kSLv (kSLv z v) w = kSLv z w := rfl
theorem kSLv_i (z : KS) : kSLv z (kLv z) = z := rfl
theorem kLk_Ix (z : KS) (v : Nat → Int32) : kLk (kSIx z v) = kLk z := rfl
theorem kLv_Ix (z : KS) (v : Nat → Int32) : kLv (kSIx z v) = kLv z := rfl
theorem kIx_Ix (z : KS) (v : Nat → Int32) : kIx (kSIx z v) = v := rfl
theorem kCi_Ix (z : KS) (v : Nat → Int32) : kCi (kSIx z v) = kCi z := rfl
theorem kTr_Ix (z : KS) (v : Nat → Int32) : kTr (kSIx z v) = kTr z := rfl
theorem kUp_Ix (z : KS) (v : Nat → Int32) : kUp (kSIx z v) = kUp z := rfl
theorem kHd_Ix (z : KS) (v : Nat → Int32) : kHd (kSIx z v) = kHd z := rfl
theorem kTl_Ix (z : KS) (v : Nat → Int32) : kTl (kSIx z v) = kTl z := rfl
theorem kWr_Ix (z : KS) (v : Nat → Int32) : kWr (kSIx z v) = kWr z := rfl
theorem kCt_Ix (z : KS) (v : Nat → Int32) : kCt (kSIx z v) = kCt z := rfl
theorem kAh_Ix (z : KS) (v : Nat → Int32) : kAh (kSIx z v) = kAh z := rfl
theorem kSIx_s (z : KS) (v w : Nat → Int32) : kSIx (kSIx z v) w = kSIx z w := rfl
theorem kSIx_i (z : KS) : kSIx z (kIx z) = z := rfl
theorem kLk_Ci (z : KS) (v : Nat → Int32) : kLk (kSCi z v) = kLk z := rfl
theorem kLv_Ci (z : KS) (v : Nat → Int32) : kLv (kSCi z v) = kLv z := rfl
theorem kIx_Ci (z : KS) (v : Nat → Int32) : kIx (kSCi z v) = kIx z := rfl
theorem kCi_Ci (z : KS) (v : Nat → Int32) : kCi (kSCi z v) = v := rfl
theorem kTr_Ci (z : KS) (v : Nat → Int32) : kTr (kSCi z v) = kTr z := rfl
theorem kUp_Ci (z : KS) (v : Nat → Int32) : kUp (kSCi z v) = kUp z := rfl
theorem kHd_Ci (z : KS) (v : Nat → Int32) : kHd (kSCi z v) = kHd z := rfl
theorem kTl_Ci (z : KS) (v : Nat → Int32) : kTl (kSCi z v) = kTl z := rfl
theorem kWr_Ci (z : KS) (v : Nat → Int32) : kWr (kSCi z v) = kWr z := rfl
theorem kCt_Ci (z : KS) (v : Nat → Int32) : kCt (kSCi z v) = kCt z := rfl
theorem kAh_Ci (z : KS) (v : Nat → Int32) : kAh (kSCi z v) = kAh z := rfl
theorem kSCi_s (z : KS) (v w : Nat → Int32) : kSCi (kSCi z v) w = kSCi z w := rfl
theorem kSCi_i (z : KS) : kSCi z (kCi z) = z := rfl
theorem kLk_Tr (z : KS) (v : Nat → Int32) : kLk (kSTr z v) = kLk z := rfl
theorem kLv_Tr (z : KS) (v : Nat → Int32) : kLv (kSTr z v) = kLv z := rfl
theorem kIx_Tr (z : KS) (v : Nat → Int32) : kIx (kSTr z v) = kIx z := rfl
theorem kCi_Tr (z : KS) (v : Nat → Int32) : kCi (kSTr z v) = kCi z := rfl
theorem kTr_Tr (z : KS) (v : Nat → Int32) : kTr (kSTr z v) = v := rfl
theorem kUp_Tr (z : KS) (v : Nat → Int32) : kUp (kSTr z v) = kUp z := rfl
theorem kHd_Tr (z : KS) (v : Nat → Int32) : kHd (kSTr z v) = kHd z := rfl
theorem kTl_Tr (z : KS) (v : Nat → Int32) : kTl (kSTr z v) = kTl z := rfl
theorem kWr_Tr (z : KS) (v : Nat → Int32) : kWr (kSTr z v) = kWr z := rfl
theorem kCt_Tr (z : KS) (v : Nat → Int32) : kCt (kSTr z v) = kCt z := rfl
theorem kAh_Tr (z : KS) (v : Nat → Int32) : kAh (kSTr z v) = kAh z := rfl
theorem kSTr_s (z : KS) (v w : Nat → Int32) : kSTr (kSTr z v) w = kSTr z w := rfl
theorem kSTr_i (z : KS) : kSTr z (kTr z) = z := rfl
theorem kLk_Up (z : KS) (v : Int32) : kLk (kSUp z v) = kLk z := rfl
theorem kLv_Up (z : KS) (v : Int32) : kLv (kSUp z v) = kLv z := rfl
theorem kIx_Up (z : KS) (v : Int32) : kIx (kSUp z v) = kIx z := rfl
theorem kCi_Up (z : KS) (v : Int32) : kCi (kSUp z v) = kCi z := rfl
theorem kTr_Up (z : KS) (v : Int32) : kTr (kSUp z v) = kTr z := rfl
theorem kUp_Up (z : KS) (v : Int32) : kUp (kSUp z v) = v := rfl
theorem kHd_Up (z : KS) (v : Int32) : kHd (kSUp z v) = kHd z := rfl
theorem kTl_Up (z : KS) (v : Int32) : kTl (kSUp z v) = kTl z := rfl
theorem kWr_Up (z : KS) (v : Int32) : kWr (kSUp z v) = kWr z := rfl
theorem kCt_Up (z : KS) (v : Int32) : kCt (kSUp z v) = kCt z := rfl
theorem kAh_Up (z : KS) (v : Int32) : kAh (kSUp z v) = kAh z := rfl
theorem kSUp_s (z : KS) (v w : Int32) : kSUp (kSUp z v) w = kSUp z w := rfl
theorem kSUp_i (z : KS) : kSUp z (kUp z) = z := rfl
theorem kLk_Hd (z : KS) (v : Int32) : kLk (kSHd z v) = kLk z := rfl
theorem kLv_Hd (z : KS) (v : Int32) : kLv (kSHd z v) = kLv z := rfl
theorem kIx_Hd (z : KS) (v : Int32) : kIx (kSHd z v) = kIx z := rfl
theorem kCi_Hd (z : KS) (v : Int32) : kCi (kSHd z v) = kCi z := rfl
theorem kTr_Hd (z : KS) (v : Int32) : kTr (kSHd z v) = kTr z := rfl
theorem kUp_Hd (z : KS) (v : Int32) : kUp (kSHd z v) = kUp z := rfl
theorem kHd_Hd (z : KS) (v : Int32) : kHd (kSHd z v) = v := rfl
theorem kTl_Hd (z : KS) (v : Int32) : kTl (kSHd z v) = kTl z := rfl
theorem kWr_Hd (z : KS) (v : Int32) : kWr (kSHd z v) = kWr z := rfl
theorem kCt_Hd (z : KS) (v : Int32) : kCt (kSHd z v) = kCt z := rfl
theorem kAh_Hd (z : KS) (v : Int32) : kAh (kSHd z v) = kAh z := rfl
theorem kSHd_s (z : KS) (v w : Int32) : kSHd (kSHd z v) w = kSHd z w := rfl
theorem kSHd_i (z : KS) : kSHd z (kHd z) = z := rfl
theorem kLk_Tl (z : KS) (v : Int32) : kLk (kSTl z v) = kLk z := rfl
theorem kLv_Tl (z : KS) (v : Int32) : kLv (kSTl z v) = kLv z := rfl
theorem kIx_Tl (z : KS) (v : Int32) : kIx (kSTl z v) = kIx z := rfl
theorem kCi_Tl (z : KS) (v : Int32) : kCi (kSTl z v) = kCi z := rfl
theorem kTr_Tl (z : KS) (v : Int32) : kTr (kSTl z v) = kTr z := rfl
theorem kUp_Tl (z : KS) (v : Int32) : kUp (kSTl z v) = kUp z := rfl
theorem kHd_Tl (z : KS) (v : Int32) : kHd (kSTl z v) = kHd z := rfl
theorem kTl_Tl (z : KS) (v : Int32) : kTl (kSTl z v) = v := rfl
theorem kWr_Tl (z : KS) (v : Int32) : kWr (kSTl z v) = kWr z := rfl
theorem kCt_Tl (z : KS) (v : Int32) : kCt (kSTl z v) = kCt z := rfl
theorem kAh_Tl (z : KS) (v : Int32) : kAh (kSTl z v) = kAh z := rfl
theorem kSTl_s (z : KS) (v w : Int32) : kSTl (kSTl z v) w = kSTl z w := rfl
theorem kSTl_i (z : KS) : kSTl z (kTl z) = z := rfl
theorem kLk_Wr (z : KS) (v : Int32) : kLk (kSWr z v) = kLk z := rfl
theorem kLv_Wr (z : KS) (v : Int32) : kLv (kSWr z v) = kLv z := rfl
theorem kIx_Wr (z : KS) (v : Int32) : kIx (kSWr z v) = kIx z := rfl
theorem kCi_Wr (z : KS) (v : Int32) : kCi (kSWr z v) = kCi z := rfl
theorem kTr_Wr (z : KS) (v : Int32) : kTr (kSWr z v) = kTr z := rfl
theorem kUp_Wr (z : KS) (v : Int32) : kUp (kSWr z v) = kUp z := rfl
theorem kHd_Wr (z : KS) (v : Int32) : kHd (kSWr z v) = kHd z := rfl
theorem kTl_Wr (z : KS) (v : Int32) : kTl (kSWr z v) = kTl z := rfl
theorem kWr_Wr (z : KS) (v : Int32) : kWr (kSWr z v) = v := rfl
theorem kCt_Wr (z : KS) (v : Int32) : kCt (kSWr z v) = kCt z := rfl
theorem kAh_Wr (z : KS) (v : Int32) : kAh (kSWr z v) = kAh z := rfl
theorem kSWr_s (z : KS) (v w : Int32) : kSWr (kSWr z v) w = kSWr z w := rfl
theorem kSWr_i (z : KS) : kSWr z (kWr z) = z := rfl
theorem kLk_Ct (z : KS) (v : Int32) : kLk (kSCt z v) = kLk z := rfl
theorem kLv_Ct (z : KS) (v : Int32) : kLv (kSCt z v) = kLv z := rfl
theorem kIx_Ct (z : KS) (v : Int32) : kIx (kSCt z v) = kIx z := rfl
theorem kCi_Ct (z : KS) (v : Int32) : kCi (kSCt z v) = kCi z := rfl
theorem kTr_Ct (z : KS) (v : Int32) : kTr (kSCt z v) = kTr z := rfl
theorem kUp_Ct (z : KS) (v : Int32) : kUp (kSCt z v) = kUp z := rfl
theorem kHd_Ct (z : KS) (v : Int32) : kHd (kSCt z v) = kHd z := rfl
theorem kTl_Ct (z : KS) (v : Int32) : kTl (kSCt z v) = kTl z := rfl
theorem kWr_Ct (z : KS) (v : Int32) : kWr (kSCt z v) = kWr z := rfl
theorem kCt_Ct (z : KS) (v : Int32) : kCt (kSCt z v) = v := rfl
theorem kAh_Ct (z : KS) (v : Int32) : kAh (kSCt z v) = kAh z := rfl
theorem kSCt_s (z : KS) (v w : Int32) : kSCt (kSCt z v) w = kSCt z w := rfl
theorem kSCt_i (z : KS) : kSCt z (kCt z) = z := rfl
theorem kLk_Ah (z : KS) (v : Int32) : kLk (kSAh z v) = kLk z := rfl
theorem kLv_Ah (z : KS) (v : Int32) : kLv (kSAh z v) = kLv z := rfl
theorem kIx_Ah (z : KS) (v : Int32) : kIx (kSAh z v) = kIx z := rfl
theorem kCi_Ah (z : KS) (v : Int32) : kCi (kSAh z v) = kCi z := rfl
theorem kTr_Ah (z : KS) (v : Int32) : kTr (kSAh z v) = kTr z := rfl
theorem kUp_Ah (z : KS) (v : Int32) : kUp (kSAh z v) = kUp z := rfl
theorem kHd_Ah (z : KS) (v : Int32) : kHd (kSAh z v) = kHd z := rfl
theorem kTl_Ah (z : KS) (v : Int32) : kTl (kSAh z v) = kTl z := rfl
theorem kWr_Ah (z : KS) (v : Int32) : kWr (kSAh z v) = kWr z := rfl
theorem kCt_Ah (z : KS) (v : Int32) : kCt (kSAh z v) = kCt z := rfl
theorem kAh_Ah (z : KS) (v : Int32) : kAh (kSAh z v) = v := rfl
theorem kSAh_s (z : KS) (v w : Int32) : kSAh (kSAh z v) w = kSAh z w := rfl
theorem kSAh_i (z : KS) : kSAh z (kAh z) = z := rfl
theorem n_or (a b : Nat) : nI a ||| nI b = nI (a ||| b) := by
  apply Int32.toBitVec_inj.1
  show BitVec.ofNat 32 a ||| BitVec.ofNat 32 b = BitVec.ofNat 32 (a ||| b)
  apply BitVec.eq_of_getLsbD_eq
  intro i hi
  simp [hi]
theorem n_m1lt : (-1 : Int32) < 0 := by decide
theorem n_ne1 {i : Nat} (h : i < 2 ^ 31) : ¬ nI i = -1 := fun e => by
  have h1 := nI_pos h
  rw [e] at h1
  exact h1 n_m1lt
theorem n_nle1 : ¬ (0 : Int32) ≤ -1 := by decide
theorem n_pos1 {x : Int32} (h : 0 ≤ x) : ¬ x = -1 := fun e => by
  rw [e] at h
  exact n_nle1 h
theorem n_nlt {x : Int32} (h : ¬ x < 0) : 0 ≤ x := by
  obtain ⟨j, hj, rfl⟩ := nI_of h
  exact nI_pos' hj
theorem n_lt {x : Int32} (h : 0 ≤ x) : ¬ x < 0 := fun h2 => by
  rw [Int32.lt_iff_toInt_lt] at h2
  rw [Int32.le_iff_toInt_le] at h
  exact absurd h2 (by omega)
theorem le64 {k : Nat} (h : k < 2 ^ 31) : (64 : Int32) ≤ nI k ↔ 64 ≤ k := nI_leI (a := 64) (by decide) h
theorem le96 {k : Nat} (h : k < 2 ^ 31) : (96 : Int32) ≤ nI k ↔ 96 ≤ k := nI_leI (a := 96) (by decide) h
theorem m1lt {t : Nat} (h : t < 2 ^ 31) : ¬ nI t ≤ -1 := fun e => by
  have h1 : (nI t).toInt ≤ (-1 : Int32).toInt := Int32.le_iff_toInt_le.mp e
  rw [nI_toInt h] at h1
  exact absurd (show (t : Int) ≤ -1 from h1) (by omega)
theorem find_n (f : Nat → Int32) {k : Nat} (h : k < 64) : v_X0_find f (nI k) = f k := by
  unfold v_X0_find
  rw [if_neg (nI_pos (by omega)), if_neg (fun e => absurd ((le64 (by omega)).mp e) (by omega)), nI_clamp (by omega)]
theorem point_n (f : Nat → Int32) {k : Nat} (h : k < 64) (x : Int32) : v_X0_point f (nI k) x = upd f k x := by
  unfold v_X0_point
  rw [if_neg (nI_pos (by omega)), if_neg (fun e => absurd ((le64 (by omega)).mp e) (by omega)), nI_clamp (by omega)]
theorem fm_n {p : Nat} (h : p < 2 ^ 31) : v_J9_floorMod_7cf53 (nI p) 96 = nI (p % 96) := by
  have e : nI p - nI p / 96 * 96 = nI (p % 96) := pk_rem (d := 96) h (by decide) (by decide)
  have hx : (0 : Int32) ≤ (nI p ^^^ 96) := by
    rw [show (nI p ^^^ 96 : Int32) = nI (p ^^^ 96) from fb_xorI p 96]
    exact nI_pos' (Nat.xor_lt_two_pow h (by decide))
  unfold v_J9_floorMod_7cf53
  rw [if_pos hx, e]
theorem fm_s (p : Int32) : s_J9_floorMod_7cf53 p 96 := ⟨by decide, trivial⟩
theorem keyAt_n (f : (Nat → Int32) × (Nat → Int32)) {p : Nat} (h : p < 2 ^ 31) : v_X1_keyAt f (nI p) = f.1 (p % 96) := by
  have h9 : p % 96 < 96 := Nat.mod_lt _ (by decide)
  unfold v_X1_keyAt
  rw [fm_n h, if_neg (nI_pos (by omega)), if_neg (fun e => absurd ((le96 (by omega)).mp e) (by omega)), nI_clamp (by omega)]
theorem valueAt_n (f : (Nat → Int32) × (Nat → Int32)) {p : Nat} (h : p < 2 ^ 31) : v_X1_valueAt f (nI p) = f.2 (p % 96) := by
  have h9 : p % 96 < 96 := Nat.mod_lt _ (by decide)
  unfold v_X1_valueAt
  rw [fm_n h, if_neg (nI_pos (by omega)), if_neg (fun e => absurd ((le96 (by omega)).mp e) (by omega)), nI_clamp (by omega)]
theorem store_n (f : (Nat → Int32) × (Nat → Int32)) {p : Nat} (h : p < 2 ^ 31) (a b : Int32) : v_X1_store f (nI p) a b = (upd f.1 (p % 96) a, upd f.2 (p % 96) b) := by
  have h9 : p % 96 < 96 := Nat.mod_lt _ (by decide)
  have h1 : ¬ (96 : Int32) ≤ nI (p % 96) := fun e => absurd ((le96 (by omega)).mp e) (by omega)
  unfold v_X1_store
  rw [fm_n h, if_neg (nI_pos (by omega)), if_neg h1, if_neg h1, nI_clamp (by omega)]
theorem keyAt_s (f : (Nat → Int32) × (Nat → Int32)) (p : Int32) : s_X1_keyAt f p := ⟨fm_s p, trivial⟩
theorem valueAt_s (f : (Nat → Int32) × (Nat → Int32)) (p : Int32) : s_X1_valueAt f p := ⟨fm_s p, trivial⟩
theorem store_s (f : (Nat → Int32) × (Nat → Int32)) (p a b : Int32) : s_X1_store f p a b := ⟨fm_s p, trivial⟩
theorem seg_n {p : Nat} (h : p < 2 ^ 31) : v_X2_segmentOf (nI p) = nI (p / 8) := pk_div (d := 8) h (by decide) (by decide)
theorem div8 {p : Nat} (h : p < 2 ^ 31) : nI p / 8 = nI (p / 8) := pk_div (d := 8) h (by decide) (by decide)
theorem rem8 {p : Nat} (h : p < 2 ^ 31) : nI p - nI p / 8 * 8 = nI (p % 8) := pk_rem (d := 8) h (by decide) (by decide)
/-- a key that is not refused -/
theorem key_ok {x : Int32} (h : x_X2_needKey x = 0) : ∃ k, k < 64 ∧ x = nI k := by
  unfold x_X2_needKey at h
  by_cases h0 : x < 0
  · rw [if_pos h0] at h; cases h
  · rw [if_neg h0] at h
    by_cases h1 : x < 64
    · obtain ⟨j, hj, rfl⟩ := nI_of h0
      exact ⟨j, (nI_ltI (b := 64) hj (by decide)).mp h1, rfl⟩
    · rw [if_neg h1] at h; cases h
theorem key_n {k : Nat} (h : k < 64) : x_X2_needKey (nI k) = 0 := by
  unfold x_X2_needKey
  have h1 : nI k < 64 := (nI_ltI (b := 64) (by omega) (by decide)).mpr h
  rw [if_neg (nI_pos (by omega)), if_pos h1]
theorem key_no {x : Int32} (h : ¬ x_X2_needKey x = 0) : x_X2_needKey x = 1 := by
  unfold x_X2_needKey at h ⊢
  by_cases h0 : x < 0
  · rw [if_pos h0]
  · rw [if_neg h0] at h ⊢
    by_cases h1 : x < 64
    · rw [if_pos h1] at h; exact absurd rfl h
    · rw [if_neg h1]
-- ===== one entry more =====
def kapp (κ : KS) (q : Nat) (v : Int32) (H : Nat) : KS := kSHd (kSIx (kSG κ (upd (kLk κ) (H % 96) (nI q), upd (kLv κ) (H % 96) v)) (upd (kIx κ) q (if v = -1 then -1 else nI H))) (nI (H + 1))
theorem follow_i_n {κ : KS} {p q : Nat} (hp : p < 2 ^ 31) (hq : q < 64) (hk : kLk κ (p % 96) = nI q) : v_X2_follow_i κ (nI p) = kSIx κ (upd (kIx κ) q (if kLv κ (p % 96) = -1 then -1 else nI p)) := by
  unfold v_X2_follow_i
  rw [valueAt_n _ hp, keyAt_n _ hp]
  show kSIx κ (v_X0_point (kIx κ) (kLk κ (p % 96)) (if (if kLv κ (p % 96) = -1 then 1 else 0 : Int32) = 0 then nI p else -1)) = _
  rw [hk, point_n _ hq]
  by_cases h : kLv κ (p % 96) = -1
  · rw [if_pos h, if_pos h, if_neg (by decide)]
  · rw [if_neg h, if_neg h, if_pos rfl]
theorem follow_t_n {κ : KS} {p q : Nat} (hp : p < 2 ^ 31) (hq : q < 64) (hk : kLk κ (p % 96) = nI q) : v_X2_follow_t κ (nI p) = kSTr κ (upd (kTr κ) q (if kLv κ (p % 96) = -1 then -1 else nI p)) := by
  unfold v_X2_follow_t
  rw [valueAt_n _ hp, keyAt_n _ hp]
  show kSTr κ (v_X0_point (kTr κ) (kLk κ (p % 96)) (if (if kLv κ (p % 96) = -1 then 1 else 0 : Int32) = 0 then nI p else -1)) = _
  rw [hk, point_n _ hq]
  by_cases h : kLv κ (p % 96) = -1
  · rw [if_pos h, if_pos h, if_neg (by decide)]
  · rw [if_neg h, if_neg h, if_pos rfl]
theorem append_n {κ : KS} {q H : Nat} (hH : H < 2 ^ 31) (hq : q < 64) (hh : kHd κ = nI H) (v : Int32) : v_X2_append κ (nI q) v = (nI H, kapp κ q v H) := by
  unfold v_X2_append
  rw [hh, store_n _ hH, nI_1]
  have hk : kLk (kSG κ (upd (kLk κ) (H % 96) (nI q), upd (kLv κ) (H % 96) v)) (H % 96) = nI q := pk_us
  have e := follow_i_n (κ := kSG κ (upd (kLk κ) (H % 96) (nI q), upd (kLv κ) (H % 96) v)) hH hq hk
  have hv : kLv (kSG κ (upd (kLk κ) (H % 96) (nI q), upd (kLv κ) (H % 96) v)) (H % 96) = v := pk_us
  rw [hv] at e
  rw [show v_X2_follow_i (kSG κ (upd (kLk κ, kLv κ).1 (H % 96) (nI q), upd (kLk κ, kLv κ).2 (H % 96) v)) (nI H) = _ from e]
  rfl
theorem append_s (κ : KS) (a b : Int32) : s_X2_append κ a b := ⟨store_s _ _ _ _, ⟨valueAt_s _ _, keyAt_s _ _, trivial⟩, trivial⟩

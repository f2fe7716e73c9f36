theorem bp_and255 (y : Int32) : ∃ n : Nat, n < 256 ∧ y &&& 255 = Int32.ofNat n := by
  refine ⟨(y &&& 255).toBitVec.toNat, ?_, ?_⟩
  · have h : (y &&& 255).toBitVec.toNat = y.toBitVec.toNat &&& 255 := by
      rw [Int32.toBitVec_and, BitVec.toNat_and]
      rfl
    rw [h]
    exact Nat.lt_succ_of_le Nat.and_le_right
  · apply Int32.toBitVec_inj.mp
    apply BitVec.eq_of_toNat_eq
    show _ = (BitVec.ofNat 32 _).toNat
    rw [BitVec.toNat_ofNat, Nat.mod_eq_of_lt (BitVec.isLt _)]
theorem jA.up {S T : Nat} {c m : bp_M} (h : jA S c m) (hT : S ≤ T) : jA T c m := ⟨h.1, h.2.1, h.2.2.up hT⟩
theorem c_still (N : Nat) (v : Int32) {c : bp_M} (h : ¬ c.1 0 5 = 0) : bc_BP_unitEndsAt N v c = some (0, c) := by
  simp only [bc_BP_unitEndsAt, if_neg h, bp_g, true_or, if_true]
theorem f_loop (N : Nat) (hW : lw_Work N) (a1 a2 b2 : Int32) : ∀ (k n n2 S e : Nat) (c m : bp_M), k < n → k < n2 → k ≤ 4 → S + 10 * k ≤ 3000000 → m.1 0 7 = Int32.ofNat e → jA S c m → ∃ r c1 m1, bc_BP_feed_L19 N a1 a2 n (Int32.ofNat e) (Int32.ofNat k + (-1)) c = some (r, c1) ∧ bm_M_feed_L20 N a1 b2 n2 (Int32.ofNat k + (-1)) m = some (r, m1) ∧ jA (S + 10 * k) c1 m1 := by
  intro k
  induction k with
  | zero =>
    intro n n2 S e c m hn hn2 _ _ he hA
    obtain ⟨n, rfl⟩ := Nat.exists_eq_succ_of_ne_zero (by omega : n ≠ 0)
    obtain ⟨n2, rfl⟩ := Nat.exists_eq_succ_of_ne_zero (by omega : n2 ≠ 0)
    have e0 : Int32.ofNat 0 + (-1) < 0 := by decide
    refine ⟨Int32.ofNat e, c, m, ?_, ?_, hA⟩
    · rw [bc_BP_feed_L19, if_pos e0]; rfl
    · rw [bm_M_feed_L20, if_pos e0]
      simp only [bm_M_feed_L51, he]
  | succ k ih =>
    intro n n2 S e c m hn hn2 hk hS he hA
    obtain ⟨n, rfl⟩ := Nat.exists_eq_succ_of_ne_zero (by omega : n ≠ 0)
    obtain ⟨n2, rfl⟩ := Nat.exists_eq_succ_of_ne_zero (by omega : n2 ≠ 0)
    rw [bc_BP_feed_L19, bm_M_feed_L20, bp_dec, if_neg (bp_nneg (by omega)), if_neg (bp_nneg (by omega))]
    obtain ⟨v, hv, hve⟩ := bp_and255 (a1 >>> ((8 * Int32.ofNat k) &&& 31))
    rw [hve]
    by_cases h0 : c.1 0 5 = 0
    · have m8 : m.1 0 8 = 0 := hA.1.symm.trans h0
      obtain ⟨c2, m2, d, q1, q2, q3, q4, q5⟩ := i_byte N hW (show S ≤ 3000000 by omega) hv h0 hA
      have he2 : m2.1 0 7 = Int32.ofNat (e + d) := by rw [q3, he, bp_add]
      obtain ⟨r, c3, m3, p1, p2, p3⟩ := ih n n2 (S + 10) (e + d) c2 m2 (by omega) (by omega) (by omega) (by omega) he2 q4
      refine ⟨r, c3, m3, ?_, ?_, by rw [show S + 10 * (k + 1) = S + 10 + 10 * k by omega]; exact p3⟩
      · rcases q1 with ⟨rfl, q1⟩ | ⟨rfl, c1, q1, q6⟩
        · simp only [q1, bp_cI, if_true, bc_BP_feed_L49, bp_nI]
          exact p1
        · simp only [q1, bp_cI, if_neg bp_10, q6, bp_cV, bp_nI, bp_inc, bc_BP_feed_L49]
          exact p1
      · simp only [m8, not_true, if_false, q2, bp_cV, bm_M_feed_L45, bp_nI]
        exact p2
    · have m8 : ¬ m.1 0 8 = 0 := by rw [← hA.1]; exact h0
      obtain ⟨r, c3, m3, p1, p2, p3⟩ := ih n n2 (S + 10) e c m (by omega) (by omega) (by omega) (by omega) he (hA.up (by omega))
      refine ⟨r, c3, m3, ?_, ?_, by rw [show S + 10 * (k + 1) = S + 10 + 10 * k by omega]; exact p3⟩
      · simp only [c_still N _ h0, bp_cI, if_true, bc_BP_feed_L49, bp_nI]
        exact p1
      · simp only [m8, not_false_iff, if_true, bm_M_feed_L45, bp_nI]
        exact p2
theorem jA_7 {S : Nat} {c m : bp_M} (h : jA S c m) (v : Int32) : jA S c (bp_sI m 0 7 v) := by
  refine ⟨?_, jI_of h.2.1 rfl (fun _ => rfl) (fun _ => rfl) (fun y hy => bp_s1k _ _ _ _ (by omega)) (fun y => bp_s1o _ _ _ _ (by decide) y), jK_in h.2.2 (iF.rf c) ((iG.rf m).s _ (by omega))⟩
  rw [bp_s1k _ _ _ _ (by decide)]
  exact h.1
theorem k_feed (N : Nat) (hN : 4000 ≤ N) (hW : lw_Work N) : lk_feed N bp_J := by
  intro k c m a1 a2 hk hJ
  have hA := jA_7 (jA_of hJ) 0
  have he : (bp_sI m 0 7 0).1 0 7 = Int32.ofNat 0 := bp_s1e _ _ _ _
  by_cases h1 : a2 < 1
  · refine ⟨0, c, bp_sI m 0 7 0, ?_, ?_, jA_to hA (by omega)⟩
    · simp only [bc_BP_feed, if_pos h1, bc_BP_feed_L10]
    · simp only [bm_M_feed, bp_nM, m_within, if_pos h1, bp_cI, not_true, if_false]
  · by_cases h2 : a2 ≤ 4
    · have h3 : ¬ (4 : Int32) < a2 := fun e => by
        rw [Int32.lt_iff_toInt_lt] at e
        rw [Int32.le_iff_toInt_le] at h2
        exact absurd e (Int.not_lt.mpr h2)
      have h4 : ¬ a2 < 0 := fun e => h1 (by
        rw [Int32.lt_iff_toInt_lt] at e ⊢
        have e0 : (0 : Int32).toInt = 0 := rfl
        have e1 : (1 : Int32).toInt = 1 := rfl
        omega)
      obtain ⟨j, hj, rfl⟩ := bp_ofv h4
      have hj4 : j ≤ 4 := (bp_le hj (b := 4) (by omega)).mp h2
      obtain ⟨r, c1, m1, q1, q2, q3⟩ := f_loop N hW a1 (Int32.ofNat j) (Int32.ofNat j) j N N (4000 * k) 0 c (bp_sI m 0 7 0) (by omega) (by omega) hj4 (by omega) he hA
      refine ⟨r, c1, m1, ?_, ?_, jA_to q3 (by omega)⟩
      · simp only [bc_BP_feed, if_neg h1, if_pos h2, bp_nI, bp_sub1]
        exact q1
      · simp only [bm_M_feed, bp_nM, m_within, if_neg h1, if_neg h3, bp_cI, bp_10, not_false_iff, if_true, bp_nI, bp_sub1]
        exact q2
    · have h3 : (4 : Int32) < a2 := bp_nle h2
      refine ⟨0, c, bp_sI m 0 7 0, ?_, ?_, jA_to hA (by omega)⟩
      · simp only [bc_BP_feed, if_neg h1, if_neg h2, bc_BP_feed_L10]
      · simp only [bm_M_feed, bp_nM, m_within, if_neg h1, if_pos h3, bp_cI, not_true, if_false]
theorem p_loop (N : Nat) (hW : lw_Work N) {w : Nat} (hw : w ≤ 400) : ∀ (k i n n2 S e : Nat) (c m : bp_M), i + k = w → k < n → k < n2 → S + 10 * k ≤ 3000000 → m.1 0 7 = Int32.ofNat e → c.1 5 2 = Int32.ofNat w → m.1 0 44 = Int32.ofNat w → (∀ i, i < w → c.1 23 i = m.1 20 i ∧ jy (c.1 23 i)) → jA S c m → ∃ r c1 m1, bc_BP_pass_L4 N n (Int32.ofNat e) (Int32.ofNat i) c = some (r, c1) ∧ bm_M_pass_L7 N n2 (Int32.ofNat i) m = some (r, m1) ∧ jA (S + 10 * k) c1 m1 := by
  intro k
  induction k with
  | zero =>
    intro i n n2 S e c m hi hn hn2 _ he hc hm hb hA
    obtain ⟨n, rfl⟩ := Nat.exists_eq_succ_of_ne_zero (by omega : n ≠ 0)
    obtain ⟨n2, rfl⟩ := Nat.exists_eq_succ_of_ne_zero (by omega : n2 ≠ 0)
    have e0 : Int32.ofNat w ≤ Int32.ofNat i := (bp_le (by omega) (by omega)).mpr (by omega)
    refine ⟨Int32.ofNat e, c, m, ?_, ?_, hA⟩
    · rw [bc_BP_pass_L4, hc, if_pos e0]; rfl
    · rw [bm_M_pass_L7, hm, if_pos e0]
      simp only [bm_M_pass_L38, he]
  | succ k ih =>
    intro i n n2 S e c m hi hn hn2 hS he hc hm hb hA
    obtain ⟨n, rfl⟩ := Nat.exists_eq_succ_of_ne_zero (by omega : n ≠ 0)
    obtain ⟨n2, rfl⟩ := Nat.exists_eq_succ_of_ne_zero (by omega : n2 ≠ 0)
    have e0 : ¬ Int32.ofNat w ≤ Int32.ofNat i := fun e => by have := (bp_le (by omega) (by omega)).mp e; omega
    have i4 : vp_in (Int32.ofNat i) 400 := bp_in (by omega) (by omega)
    have i5 : vp_in (Int32.ofNat i) 420 := bp_in (by omega) (by omega)
    obtain ⟨hb1, v, -, hv, hve⟩ := hb i (by omega)
    rw [bc_BP_pass_L4, bm_M_pass_L7, hc, hm, if_neg e0, if_neg e0, bp_git i4, bp_git i5, bp_tn (show i < 2147483648 by omega), ← hb1, hve]
    by_cases h0 : c.1 0 5 = 0
    · have m8 : m.1 0 8 = 0 := hA.1.symm.trans h0
      obtain ⟨c2, m2, d, q1, q2, q3, q4, f1, f2, f3, f4⟩ := i_byte N hW (show S ≤ 3000000 by omega) (show v < 256 by omega) h0 hA
      have he2 : m2.1 0 7 = Int32.ofNat (e + d) := by rw [q3, he, bp_add]
      obtain ⟨r, c3, m3, p1, p2, p3⟩ := ih (i + 1) n n2 (S + 10) (e + d) c2 m2 (by omega) (by omega) (by omega) (by omega) he2 (by rw [f1]; exact hc) (by rw [f3]; exact hm) (fun j hj => by rw [f2, f4]; exact hb j hj) q4
      refine ⟨r, c3, m3, ?_, ?_, by rw [show S + 10 * (k + 1) = S + 10 + 10 * k by omega]; exact p3⟩
      · rcases q1 with ⟨rfl, q1⟩ | ⟨rfl, c1, q1, q6⟩
        · simp only [q1, bp_cI, if_true, bc_BP_pass_L38, bp_nI, bp_inc]
          exact p1
        · simp only [q1, bp_cI, if_neg bp_10, q6, bp_cV, bp_nI, bp_inc, bc_BP_pass_L38]
          exact p1
      · simp only [m8, not_true, if_false, q2, bp_cV, bm_M_pass_L32, bp_nI, bp_inc]
        exact p2
    · have m8 : ¬ m.1 0 8 = 0 := by rw [← hA.1]; exact h0
      obtain ⟨r, c3, m3, p1, p2, p3⟩ := ih (i + 1) n n2 (S + 10) e c m (by omega) (by omega) (by omega) (by omega) he hc hm hb (hA.up (by omega))
      refine ⟨r, c3, m3, ?_, ?_, by rw [show S + 10 * (k + 1) = S + 10 + 10 * k by omega]; exact p3⟩
      · simp only [c_still N _ h0, bp_cI, if_true, bc_BP_pass_L38, bp_nI, bp_inc]
        exact p1
      · simp only [m8, not_false_iff, if_true, bm_M_pass_L32, bp_nI, bp_inc]
        exact p2
theorem k_pass (N : Nat) (hN : 4000 ≤ N) (hW : lw_Work N) : lk_pass N bp_J := by
  intro k c m hk hJ
  have hA := jA_7 (jA_of hJ) 0
  obtain ⟨-, -, -, -, -, -, -, -, ⟨-, w, w1, w2, w3, w4⟩, -⟩ := id hJ
  obtain ⟨r, c1, m1, q1, q2, q3⟩ := p_loop N hW w1 w 0 N N (4000 * k) 0 c (bp_sI m 0 7 0) (by omega) (by omega) (by omega) (by omega) (bp_s1e _ _ _ _) w2 (by rw [bp_s1k _ _ _ _ (by decide)]; exact w3) (fun i hi => by rw [bp_s1o _ _ _ _ (by decide)]; exact w4 i hi) hA
  refine ⟨r, c1, m1, q1, ?_, jA_to q3 (by omega)⟩
  simp only [bm_M_pass, bp_nM]
  exact q2

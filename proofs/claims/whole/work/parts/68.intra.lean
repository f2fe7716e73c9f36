/-! A block predicted from its neighbours, whole: z_intra. -/
theorem c_addR (N : Nat) (hN : 4000 ≤ N) {n : Nat} (hn : n < 16) (c : bp_M) : ∃ c1, bc_PD_addResidual N (Int32.ofNat n) c = some c1 ∧ cF [34] c c1 := by
  obtain ⟨c1, q1, q2, -⟩ := c_addl N hN hn (m := ((fun x y => if x = 11 then c.1 19 y else im_0.1 x y), im_0.2)) (fun j hj => ⟨rfl, rfl, rfl⟩) 16 0 N c (by omega) (by omega) (fun k _ => rfl)
  exact ⟨c1, q1, q2⟩
theorem in_16 {n : Nat} (hn : n < 16) : vp_in (Int32.ofNat n) 16 := bp_in (by omega) hn
/-- the residual's flag and the residual, behind the prediction -/
theorem z_tail (N : Nat) (hN : 4000 ≤ N) {d q n : Nat} (hq : isRO q) (hn : n < 16) (r2 : Int32 → bp_M → Option bp_M) (key : Int32) {c m : bp_M} (h : rD d c m) (hcq : c.2 3 6 = q) (hQ : c.1 3 10 = m.1 0 19) (hQ2 : jr 0 11 (m.1 0 19)) (hC : jC m) (h7 : m.1 7 n = 0) (h11 : ∀ i, i < 16 → m.1 11 i = 0) : ∃ c1 m1, bc_PD_readBlocks_L161 r2 N key (Int32.ofNat n) 1 c = r2 (Int32.ofNat (n + 1)) c1 ∧ bm_M_residual N (Int32.ofNat n) m = some m1 ∧ rD d c1 m1 ∧ (¬ c.1 6 3 = 0 → c1.1 6 3 = c.1 6 3) ∧ cF [6, 19, 34, 5 * q - 15] c c1 ∧ mF [7, 11] m m1 ∧ (c1.1 6 3 = 0 → (∀ i, bo i ≠ n → c1.1 34 i = c.1 34 i) ∧ (∀ k, k < 16 → c1.1 34 (sn n k) = (if m1.1 7 n = 0 then c.1 34 (sn n k) else li (c.1 34 (sn n k) + rA m1 (k / 4) (k % 4)))) ∧ (m1.1 7 n = 0 → ∀ i, i < 16 → m1.1 11 i = 0) ∧ (∀ y, y ≠ n → c1.1 (5 * q - 15) y = c.1 (5 * q - 15) y ∧ m1.1 7 y = m.1 7 y) ∧ c1.1 (5 * q - 15) n = m1.1 7 n ∧ jb (m1.1 7 n)) := by
  obtain ⟨hq1, hq2⟩ := id hq
  obtain ⟨v, c1, m1, q1, q2, q3, q4, q5⟩ := z_flag N hN h
  have hcq1 : c1.2 3 6 = q := by rw [q3.2.1.1]; exact hcq
  have tn : (Int32.ofNat n).toNatClampNeg = n := bp_tn (by omega)
  have f34 : ∀ y, c1.1 34 y = c.1 34 y := fun y => q3.2.1.2 34 (by decide) y
  have f15 : ∀ y, c1.1 (5 * q - 15) y = c.1 (5 * q - 15) y := fun y => q3.2.1.2 _ (by simp; omega) y
  have g7 : ∀ y, m1.1 7 y = m.1 7 y := fun y => q3.2.2.1.1 7 (by decide) (by simp) y
  have g11 : ∀ y, m1.1 11 y = m.1 11 y := fun y => q3.2.2.1.1 11 (by decide) (by simp) y
  rcases q5 with hv | hv
  · subst hv
    refine ⟨bp_sI c1 (5 * q - 15) n 0, m1, ?_, ?_, q3.1.of (fun y => bp_s1o _ _ _ _ (by omega) y) (fun y => bp_s1o _ _ _ _ (by omega) y) rfl rfl rfl (fun _ => rfl), fun hn => ?_, (q3.2.1.up (by simp)).s _ (by simp), q3.2.2.1.up (by simp), fun hf => ?_⟩
    · simp only [bc_PD_readBlocks_L161, bp_nN, hcq, bp_gt hq, bp_10, if_false, q1, bp_cI, if_true, bc_PD_readBlocks_L188, bc_PD_readBlocks_L189, bp_git (in_16 hn), tn, bp_g, true_or, bp_nM, hcq1, bp_s2, if_pos hq, bp_s1e, bc_PD_readBlocks_L211, bp_nI, bp_inc]
    · simp only [bm_M_residual, q2, bp_cI, not_true, if_false]
    · rw [bp_s1o _ _ _ _ (by omega)]; exact q3.2.2.2 hn
    · refine ⟨fun i hi => by rw [bp_s1o _ _ _ _ (by omega), f34], fun k hk => ?_, fun _ i hi => by rw [g11, h11 i hi], fun y hy => ⟨by rw [bp_s1k _ _ _ _ hy, f15], g7 y⟩, by rw [bp_s1e, g7, h7], by rw [g7, h7]; exact Or.inl rfl⟩
      rw [bp_s1o _ _ _ _ (by omega), f34, g7, h7, if_pos rfl]
  · subst hv
    have hf1 : c1.1 6 3 = 0 := by
      by_cases hz : c1.1 6 3 = 0
      · exact hz
      · exact absurd (q4 hz) bp_10
    have r2' : rD d (bp_sI c1 (5 * q - 15) n 1) (bp_sI m1 7 n 1) := q3.1.of (fun y => bp_s1o _ _ _ _ (by omega) y) (fun y => bp_s1o _ _ _ _ (by omega) y) (bp_s1o _ _ _ _ (by decide) _) (bp_s1o _ _ _ _ (by decide) _) (bp_s1o _ _ _ _ (by decide) _) (fun y => bp_s1o _ _ _ _ (by decide) y)
    have e19 : (bp_sI m1 7 n 1).1 0 19 = m.1 0 19 := by rw [bp_s1o _ _ _ _ (by decide)]; exact q3.2.2.1.2 19 (by decide) (by decide)
    have hC1 : jC (bp_sI m1 7 n 1) := jC_of hC (fun o ho y => by rw [bp_s1o _ _ _ _ (by omega)]; exact q3.2.2.1.1 o (by omega) (by simp) y)
    obtain ⟨c3, m3, m4, x, p1, p2', p3, p4, p5, p6, p7, p8⟩ := z_res N hN (Int32.ofNat n) r2' (by rw [e19, bp_s1o _ _ _ _ (by omega), q3.2.1.2 3 (by decide)]; exact hQ) (by rw [e19]; exact hQ2) hC1 (fun i hi => by rw [bp_s1o _ _ _ _ (by decide), g11, h11 i hi])
    have hcq3 : c3.2 3 6 = q := by rw [p6.1]; exact hcq1
    have eM : bm_M_residual N (Int32.ofNat n) m = some m4 := by
      simp only [bm_M_residual, q2, bp_cI, bp_10, not_false_iff, if_true, bp_git (in_16 hn), tn, bp_g, or_true, bp_nM, p2', bp_nI]
      exact p3
    have m7 : ∀ y, m4.1 7 y = (bp_sI m1 7 n 1).1 7 y := fun y => p7.1 7 (by decide) (by decide) y
    have c15 : ∀ y, c3.1 (5 * q - 15) y = (bp_sI c1 (5 * q - 15) n 1).1 (5 * q - 15) y := fun y => p6.2 _ (by simp; omega) y
    have c34 : ∀ y, c3.1 34 y = c.1 34 y := fun y => by rw [p6.2 34 (by decide), bp_s1o _ _ _ _ (by omega), f34]
    have eC : ∀ c5, bc_PD_addResidual N (Int32.ofNat n) c3 = some c5 → bc_PD_readBlocks_L161 r2 N key (Int32.ofNat n) 1 c = r2 (Int32.ofNat (n + 1)) c5 := fun c5 h5 => by
      simp only [bc_PD_readBlocks_L161, bp_nN, hcq, bp_gt hq, bp_10, if_false, q1, bp_cI, bc_PD_readBlocks_L189, bp_git (in_16 hn), tn, bp_g, or_true, if_true, bp_nM, hcq1, bp_s2, if_pos hq, bp_s1e, p1, bp_cV, h5, bc_PD_readBlocks_L211, bp_nI, bp_inc]
    have fc3 : cF [6, 19, 34, 5 * q - 15] c c3 := ((q3.2.1.up (by simp)).s _ (by simp)).tr (p6.up (by simp))
    have fm4 : mF [7, 11] m m4 := ((q3.2.2.1.up (by simp)).s _ (by decide) (by decide)).tr (p7.up (by simp))
    have hkeep : ¬ c.1 6 3 = 0 → c3.1 6 3 = c.1 6 3 := fun hn => absurd (q3.z hf1) hn
    by_cases hf3 : c3.1 6 3 = 0
    · obtain ⟨c5, t1, t2, t3, -, t5⟩ := c_addl N hN hn (m := m4) (jC_of hC1 (fun o ho y => p7.1 o (by omega) (by simp; omega) y)) 16 0 N c3 (by omega) (by omega) (p8 hf3)
      have t1' : bc_PD_addResidual N (Int32.ofNat n) c3 = some c5 := t1
      refine ⟨c5, m4, eC c5 t1', eM, p4.of (fun y => t2.2 6 (by decide) y) (fun y => t2.2 16 (by decide) y) rfl rfl rfl (fun _ => rfl), fun hn => by rw [t2.2 6 (by decide)]; exact hkeep hn, fc3.tr (t2.up (by simp)), fm4, fun _ => ?_⟩
      have m7n : m4.1 7 n = 1 := by rw [m7, bp_s1e]
      refine ⟨fun i hi => by rw [t3 i hi, c34], fun k hk => ?_, fun hz => absurd (m7n.symm.trans hz) bp_10, fun y hy => ⟨?_, ?_⟩, ?_, by rw [m7n]; exact Or.inr rfl⟩
      · rw [m7n, if_neg bp_10, t5 k (by omega) hk, c34]
      · rw [t2.2 _ (by simp; omega), c15, bp_s1k _ _ _ _ hy, f15]
      · rw [m7, bp_s1k _ _ _ _ hy, g7]
      · rw [t2.2 _ (by simp; omega), c15, bp_s1e, m7n]
    · obtain ⟨c5, t1, t2⟩ := c_addR N hN hn c3
      refine ⟨c5, m4, eC c5 t1, eM, p4.of (fun y => t2.2 6 (by decide) y) (fun y => t2.2 16 (by decide) y) rfl rfl rfl (fun _ => rfl), fun hn => by rw [t2.2 6 (by decide)]; exact hkeep hn, fc3.tr (t2.up (by simp)), fm4, fun hz => ?_⟩
      rw [t2.2 6 (by decide)] at hz
      exact absurd hz hf3
/-- what a block leaves -/
def zT (d q n : Nat) (c m c1 m1 : bp_M) : Prop := rD d c1 m1 ∧ cF [6, 17, 18, 19, 34, 5 * q - 15] c c1 ∧ mF [5, 7, 11] m m1 ∧ (c1.1 6 3 = 0 → c.1 6 3 = 0 ∧ (∀ i, bo i ≠ n → c1.1 34 i = c.1 34 i ∧ m1.1 5 i = m.1 5 i) ∧ (∀ k, k < 16 → c1.1 34 (sn n k) = m1.1 5 (sn n k) ∧ jy (m1.1 5 (sn n k))) ∧ (∀ y, y ≠ n → c1.1 (5 * q - 15) y = c.1 (5 * q - 15) y ∧ m1.1 7 y = m.1 7 y) ∧ c1.1 (5 * q - 15) n = m1.1 7 n ∧ jb (m1.1 7 n))
def fA (n : Nat) : Nat := if n < 4 then 0 else 1
def fB (n : Nat) : Nat := if n % 4 = 0 then 0 else 1
/-- readIntra behind its mode -/
def bI (N : Nat) (a1 z2 : Int32) (m1 : bp_M) : Option (Int32 × bp_M) :=
  if ¬ z2 = 0 then
    if ¬ z2 = 1 then
      if ¬ z2 = 2 then
        bc_PD_readIntra_L87 N a1 z2 m1
      else
        if a1 < 4 then
          bc_PD_readIntra_L87 N a1 z2 m1
        else
          bp_cV (bc_PD_predictFrom N a1 (-16) 0 1 m1) fun m3 =>
          bc_PD_readIntra_L119 N a1 z2 m3
    else
      bp_cV (bc_PD_predictMean N a1 m1) fun m4 =>
      bc_PD_readIntra_L119 N a1 z2 m4
  else
    bc_PD_readIntra_L15 N a1 N z2 0 m1
theorem lt_4 {n : Nat} (hn : n < 16) : (Int32.ofNat n < 4 ↔ n < 4) := bp_lt (b := 4) (by omega) (by omega)
theorem m4_0 {n : Nat} (hn : n < 16) : ((Int32.ofNat n - Int32.ofNat n / 4 * 4 : Int32) ≤ 0 ↔ n % 4 = 0) := by
  rw [b4 (by omega), r4 (by omega)]
  constructor
  · intro e
    have := (bp_le (b := 0) (by omega) (by omega)).mp e
    omega
  · intro e
    rw [e]
    decide
theorem m_L28 (N : Nat) {n : Nat} (hn : n < 16) (z : Int32) (m : bp_M) : (if Int32.ofNat n < 4 then bm_M_intraBlock_L16 N (Int32.ofNat n) z 0 m else bm_M_intraBlock_L16 N (Int32.ofNat n) z 1 m) = bm_M_intraBlock_L28 N (Int32.ofNat n) z (Int32.ofNat (fA n)) (Int32.ofNat (fB n)) m := by
  unfold bm_M_intraBlock_L16 fA fB
  by_cases h1 : n < 4 <;> by_cases h2 : n % 4 = 0
  · rw [if_pos ((lt_4 hn).mpr h1), if_pos ((m4_0 hn).mpr h2), if_pos h1, if_pos h2]; rfl
  · rw [if_pos ((lt_4 hn).mpr h1), if_neg (fun e => h2 ((m4_0 hn).mp e)), if_pos h1, if_neg h2]; rfl
  · rw [if_neg (fun e => h1 ((lt_4 hn).mp e)), if_pos ((m4_0 hn).mpr h2), if_neg h1, if_pos h2]; rfl
  · rw [if_neg (fun e => h1 ((lt_4 hn).mp e)), if_neg (fun e => h2 ((m4_0 hn).mp e)), if_neg h1, if_neg h2]; rfl
theorem c_mean (N : Nat) {n : Nat} (hn : n < 16) (c : bp_M) : bc_PD_predictMean N (Int32.ofNat n) c = bc_PD_predictMean_L36 N (Int32.ofNat n) N (Int32.ofNat (sn n 0)) (Int32.ofNat (fA n)) (Int32.ofNat (fB n)) 0 0 c := by
  unfold bc_PD_predictMean
  rw [show bc_BP_sampleNumber N (Int32.ofNat n) 0 c = some (Int32.ofNat (sn n 0), c) from c_sn N hn (k := 0) (by omega) c]
  simp only [bp_cI]
  unfold bc_PD_predictMean_L16 bc_PD_predictMean_L28 fA fB
  by_cases h1 : n < 4 <;> by_cases h2 : n % 4 = 0
  · rw [if_pos ((lt_4 hn).mpr h1), if_pos ((m4_0 hn).mpr h2), if_pos h1, if_pos h2]; rfl
  · rw [if_pos ((lt_4 hn).mpr h1), if_neg (fun e => h2 ((m4_0 hn).mp e)), if_pos h1, if_neg h2]; rfl
  · rw [if_neg (fun e => h1 ((lt_4 hn).mp e)), if_pos ((m4_0 hn).mpr h2), if_neg h1, if_pos h2]; rfl
  · rw [if_neg (fun e => h1 ((lt_4 hn).mp e)), if_neg (fun e => h2 ((m4_0 hn).mp e)), if_neg h1, if_neg h2]; rfl
theorem fA_b (n : Nat) : fA n ≤ 1 ∧ (fA n = 1 → 4 ≤ n) ∧ (4 ≤ n → fA n = 1) := by unfold fA; split <;> omega
theorem fB_b (n : Nat) : fB n ≤ 1 ∧ (fB n = 1 → 0 < n % 4) ∧ (0 < n % 4 → fB n = 1) := by unfold fB; split <;> omega
theorem z_pre (N : Nat) (hN : 4000 ≤ N) {n w : Nat} (hn : n < 16) {c m : bp_M} (hS : zS n c m) (hw1 : 1 ≤ w) (hw3 : w ≤ 3) (h2 : w = 2 → 4 ≤ n) (h3 : w = 3 → 0 < n % 4) : ∃ v c1, bI N (Int32.ofNat n) (Int32.ofNat w) c = some (1, c1) ∧ zG n (gs m (Int32.ofNat w) v n) c c1 ∧ (∀ k, k < 16 → jy (gs m (Int32.ofNat w) v n k)) ∧ ∀ m' : bp_M, (∀ i, m'.1 5 i = m.1 5 i) → bm_M_intraBlock_L78 N (Int32.ofNat n) (Int32.ofNat w) (Int32.ofNat (fA n)) (Int32.ofNat (fB n)) m' = bm_M_intraBlock_L201 N (Int32.ofNat n) N (Int32.ofNat w) (Int32.ofNat (sn n 0)) v (Int32.ofNat 0) m' := by
  obtain ⟨T, t1, t2, t3⟩ := z_sum N hn (fA_b n).1 (fB_b n).1 (fA_b n).2.1 (fB_b n).2.1 (Int32.ofNat w) hS 4 0 N N 0 (by omega) (by omega) (by omega) (by omega)
  have e78 : ∀ m' : bp_M, (∀ i, m'.1 5 i = m.1 5 i) → bm_M_intraBlock_L78 N (Int32.ofNat n) (Int32.ofNat w) (Int32.ofNat (fA n)) (Int32.ofNat (fB n)) m' = bm_M_intraBlock_L201 N (Int32.ofNat n) N (Int32.ofNat w) (Int32.ofNat (sn n 0)) (me (fA n) (fB n) T) (Int32.ofNat 0) m' := fun m' hm' => by
    unfold bm_M_intraBlock_L78
    rw [m_corner N hn]
    simp only [bp_cI]
    exact (t3 m' hm').trans (m_157 N _ _ _ _ _ _ _)
  have e0 := sn_0 n
  have e119 : ∀ x : bp_M, bc_PD_readIntra_L119 N (Int32.ofNat n) (Int32.ofNat w) x = some (1, x) := fun x => by
    have : ¬ Int32.ofNat w = 0 := bp_ne0 (by omega) (by omega)
    simp only [bc_PD_readIntra_L119, if_neg this, bc_PD_readIntra_L128, bp_g, or_true, if_true]
  rcases (show w = 1 ∨ w = 2 ∨ w = 3 by omega) with hw | hw | hw
  · subst hw
    obtain ⟨c1, q1, q2, q3, -, q5⟩ := c_meanl N hn (me (fA n) (fB n) T) 16 0 N c (by omega) (by omega)
    have q1' : bc_PD_predictMean N (Int32.ofNat n) c = some c1 := by
      rw [c_mean N hn]
      exact t2.trans ((c_107 N _ _ _ _ _).trans q1)
    have g1 : ∀ k, gs m (Int32.ofNat 1) (me (fA n) (fB n) T) n k = me (fA n) (fB n) T := fun k => by
      unfold gs
      exact if_neg (fun hn => hn rfl)
    refine ⟨_, c1, ?_, ⟨q2, q3, fun k hk => by rw [q5 k (by omega) hk, g1]⟩, fun k hk => by rw [g1]; exact me_y (fA_b n).1 (fB_b n).1 t1, e78⟩
    unfold bI
    rw [if_pos (by decide), if_neg (fun hn => hn rfl), q1']
    exact e119 c1
  · subst hw
    have h4 := h2 rfl
    have g1 : ∀ k, gs m (Int32.ofNat 2) (me (fA n) (fB n) T) n k = m.1 5 (sn n 0 - 16 + k % 4) := fun k => by
      unfold gs
      rw [if_pos (by decide), if_neg (fun hn => hn rfl)]
    have gS : ∀ k, c.1 34 (sn n 0 - 16 + k % 4) = m.1 5 (sn n 0 - 16 + k % 4) ∧ jy (m.1 5 (sn n 0 - 16 + k % 4)) := fun k => hS _ (by omega) (by unfold bo; omega)
    obtain ⟨c1, q1, q2, q3, -, q5⟩ := c_froml N hn (-16) 0 1 (Int32.ofNat (sn n 0) + (-16)) (fun k => sn n 0 - 16 + k % 4) (fun k hk => ⟨by
      rw [Int32.zero_mul, Int32.add_zero, Int32.one_mul, ← Int32.sub_eq_add_neg, show (16 : Int32) = Int32.ofNat 16 from rfl, bp_sub (by omega), bp_add], by omega, by unfold bo; omega⟩) 16 0 N c (by omega) (by omega)
    refine ⟨_, c1, ?_, ⟨q2, q3, fun k hk => by rw [q5 k (by omega) hk, g1]; exact (gS k).1⟩, fun k hk => by rw [g1]; exact (gS k).2, e78⟩
    have q1' : bc_PD_predictFrom N (Int32.ofNat n) (-16) 0 1 c = some c1 := by
      unfold bc_PD_predictFrom
      rw [show bc_BP_sampleNumber N (Int32.ofNat n) 0 c = some (Int32.ofNat (sn n 0), c) from c_sn N hn (k := 0) (by omega) c]
      exact q1
    unfold bI
    rw [if_pos (by decide), if_pos (by decide), if_neg (fun hn => hn rfl), if_neg (fun e => by have := (lt_4 hn).mp e; omega), q1']
    exact e119 c1
  · subst hw
    have h4 := h3 rfl
    have g1 : ∀ k, gs m (Int32.ofNat 3) (me (fA n) (fB n) T) n k = m.1 5 (sn n 0 - 1 + 16 * (k / 4)) := fun k => by
      unfold gs
      rw [if_pos (by decide), if_pos (by decide)]
    have gS : ∀ k, k < 16 → c.1 34 (sn n 0 - 1 + 16 * (k / 4)) = m.1 5 (sn n 0 - 1 + 16 * (k / 4)) ∧ jy (m.1 5 (sn n 0 - 1 + 16 * (k / 4))) := fun k hk => hS _ (by omega) (by unfold bo; omega)
    obtain ⟨c1, q1, q2, q3, -, q5⟩ := c_froml N hn (-1) 16 0 (Int32.ofNat (sn n 0) + (-1)) (fun k => sn n 0 - 1 + 16 * (k / 4)) (fun k hk => ⟨by
      rw [Int32.zero_mul, Int32.add_zero, ← Int32.sub_eq_add_neg, show (1 : Int32) = Int32.ofNat 1 from rfl, bp_sub (by omega), x16, bp_add], by omega, by unfold bo; omega⟩) 16 0 N c (by omega) (by omega)
    refine ⟨_, c1, ?_, ⟨q2, q3, fun k hk => by rw [q5 k (by omega) hk, g1]; exact (gS k hk).1⟩, fun k hk => by rw [g1]; exact (gS k hk).2, e78⟩
    have q1' : bc_PD_predictFrom N (Int32.ofNat n) (-1) 16 0 c = some c1 := by
      unfold bc_PD_predictFrom
      rw [show bc_BP_sampleNumber N (Int32.ofNat n) 0 c = some (Int32.ofNat (sn n 0), c) from c_sn N hn (k := 0) (by omega) c]
      exact q1
    unfold bI
    rw [if_pos (by decide), if_pos (by decide), if_pos (by decide)]
    unfold bc_PD_readIntra_L87
    rw [if_neg (fun hn => hn rfl), if_neg (fun e => by have := (m4_0 hn).mp e; omega), q1']
    exact e119 c1

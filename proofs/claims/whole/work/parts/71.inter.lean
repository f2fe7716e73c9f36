/-! A block fetched from a reference: z_inter. -/
/-- the references as both sides list them -/
def zL (N K : Nat) (c m : bp_M) : Prop := 1 ≤ K ∧ K ≤ 4 ∧ (∃ L : Nat, L < K ∧ c.1 3 9 = Int32.ofNat L ∧ m.1 0 20 = Int32.ofNat L) ∧ ∀ r, r < K → ∃ p : Nat, p < 4 ∧ 11 ≤ c.2 39 r ∧ c.2 39 r < 15 ∧ (∀ m' : bp_M, (∀ y, m'.1 15 y = m.1 15 y) → m'.1 0 34 = m.1 0 34 → m'.1 0 21 = m.1 0 21 → bm_M_listed N (Int32.ofNat r) m' = some (Int32.ofNat p, m')) ∧ ∀ i, i < 256 → c.1 (c.2 39 r + 24) i = m.1 13 (256 * p + i) ∧ jy (m.1 13 (256 * p + i))
theorem zL.of {N K : Nat} {c m c1 m1 : bp_M} (h : zL N K c m) (a : ∀ y, c1.2 39 y = c.2 39 y) (a3 : c1.1 3 9 = c.1 3 9) (a4 : ∀ o, 35 ≤ o ∧ o < 39 → ∀ y, c1.1 o y = c.1 o y) (b20 : m1.1 0 20 = m.1 0 20) (b21 : m1.1 0 21 = m.1 0 21) (b34 : m1.1 0 34 = m.1 0 34) (b13 : ∀ y, m1.1 13 y = m.1 13 y) (b15 : ∀ y, m1.1 15 y = m.1 15 y) : zL N K c1 m1 := by
  obtain ⟨h1, h2, ⟨L, hL, e1, e2⟩, h3⟩ := h
  refine ⟨h1, h2, ⟨L, hL, by rw [a3]; exact e1, by rw [b20]; exact e2⟩, fun r hr => ?_⟩
  obtain ⟨p, p1, p2, p3, p4, p5⟩ := h3 r hr
  refine ⟨p, p1, by rw [a]; exact p2, by rw [a]; exact p3, fun m' g1 g2 g3 => p4 m' (fun y => (g1 y).trans (b15 y)) (g2.trans b34) (g3.trans b21), fun i hi => ?_⟩
  rw [a, a4 _ (by omega), b13]
  exact p5 i hi
theorem rI_q {q : Nat} (h : isRO q) : bc_isI (5 * q - 13) = true ∧ bc_len (5 * q - 13) = 16 ∧ bc_isI (5 * q - 12) = true ∧ bc_len (5 * q - 12) = 16 := by
  obtain ⟨h1, h2⟩ := h
  rcases (show q = 8 ∨ q = 9 by omega) with rfl | rfl <;> exact ⟨by decide, by decide, by decide, by decide⟩
/-- what a block of either kind leaves -/
def zU (d q n : Nat) (c m c1 m1 : bp_M) : Prop := rD d c1 m1 ∧ cF [6, 17, 18, 19, 34, 5 * q - 15, 5 * q - 14, 5 * q - 13, 5 * q - 12] c c1 ∧ mF [5, 7, 8, 9, 10, 11] m m1 ∧ (c1.1 6 3 = 0 → c.1 6 3 = 0 ∧ (∀ i, bo i ≠ n → c1.1 34 i = c.1 34 i ∧ m1.1 5 i = m.1 5 i) ∧ (∀ k, k < 16 → c1.1 34 (sn n k) = m1.1 5 (sn n k) ∧ jy (m1.1 5 (sn n k))) ∧ (∀ y, y ≠ n → (∀ o, 5 * q - 15 ≤ o ∧ o ≤ 5 * q - 12 → c1.1 o y = c.1 o y) ∧ (∀ o, 7 ≤ o ∧ o ≤ 10 → m1.1 o y = m.1 o y)) ∧ c1.1 (5 * q - 15) n = m1.1 7 n ∧ jb (m1.1 7 n) ∧ c1.1 (5 * q - 14) n = m1.1 10 n ∧ c1.1 (5 * q - 13) n = m1.1 8 n ∧ jv (m1.1 8 n) ∧ c1.1 (5 * q - 12) n = m1.1 9 n ∧ jv (m1.1 9 n))
/-- no residual: the tail of a copied block -/
theorem z_tail0 (N : Nat) {d q n : Nat} (hq : isRO q) (hn : n < 16) (r2 : Int32 → bp_M → Option bp_M) (key : Int32) {c m : bp_M} (h : rD d c m) (hcq : c.2 3 6 = q) (h7 : m.1 7 n = 0) (h11 : ∀ i, i < 16 → m.1 11 i = 0) : ∃ c1, bc_PD_readBlocks_L161 r2 N key (Int32.ofNat n) 0 c = r2 (Int32.ofNat (n + 1)) c1 ∧ rD d c1 m ∧ (¬ c.1 6 3 = 0 → c1.1 6 3 = c.1 6 3) ∧ cF [6, 19, 34, 5 * q - 15] c c1 ∧ (c1.1 6 3 = 0 → (∀ i, bo i ≠ n → c1.1 34 i = c.1 34 i) ∧ (∀ k, k < 16 → c1.1 34 (sn n k) = (if m.1 7 n = 0 then c.1 34 (sn n k) else li (c.1 34 (sn n k) + rA m (k / 4) (k % 4)))) ∧ (m.1 7 n = 0 → ∀ i, i < 16 → m.1 11 i = 0) ∧ (∀ y, y ≠ n → c1.1 (5 * q - 15) y = c.1 (5 * q - 15) y ∧ m.1 7 y = m.1 7 y) ∧ c1.1 (5 * q - 15) n = m.1 7 n ∧ jb (m.1 7 n)) := by
  obtain ⟨hq1, hq2⟩ := id hq
  have tn : (Int32.ofNat n).toNatClampNeg = n := bp_tn (by omega)
  refine ⟨bp_sI c (5 * q - 15) n 0, ?_, h.of (fun y => bp_s1o _ _ _ _ (by omega) y) (fun y => bp_s1o _ _ _ _ (by omega) y) rfl rfl rfl (fun _ => rfl), fun _ => bp_s1o _ _ _ _ (by omega) _, (cF.rf _ _).s _ (by simp), fun _ => ⟨fun i _ => bp_s1o _ _ _ _ (by omega) _, fun k hk => ?_, fun _ => h11, fun y hy => ⟨bp_s1k _ _ _ _ hy, rfl⟩, by rw [bp_s1e, h7], by rw [h7]; exact Or.inl rfl⟩⟩
  · simp only [bc_PD_readBlocks_L161, bp_nN, hcq, bp_gt hq, if_true, bc_PD_readBlocks_L188, bc_PD_readBlocks_L189, bp_git (in_16 hn), tn, bp_g, true_or, bp_nM, bp_s2, if_pos hq, bp_s1e, bc_PD_readBlocks_L211, bp_nI, bp_inc]
  · rw [h7, if_pos rfl, bp_s1o _ _ _ _ (by omega)]
/-- readInter's reading: reference and vector -/
theorem z_refvec (N : Nat) (hN : 4000 ≤ N) {d q n K : Nat} (hq : isRO q) (hn : n < 16) {c m : bp_M} (h : rD d c m) (hcq : c.2 3 6 = q) (hV : ∀ j, j < n → c.1 (5 * q - 13) j = m.1 8 j ∧ jv (m.1 8 j) ∧ c.1 (5 * q - 12) j = m.1 9 j ∧ jv (m.1 9 j)) (hL : zL N K c m) : ∃ (c5 m5 : bp_M) (r : Nat) (X Y x y : Int32), bc_PD_readInter N (Int32.ofNat n) 0 c = bc_PD_readInter_L106 N (Int32.ofNat n) 0 X Y c5 ∧ (∀ m6, bm_M_residual N (Int32.ofNat n) m5 = some m6 → bm_M_interBlock N (Int32.ofNat n) 0 m = bm_M_interBlock_L127 N (Int32.ofNat n) 0 x y (Int32.ofNat r) m6) ∧ rD d c5 m5 ∧ (¬ c.1 6 3 = 0 → c5.1 6 3 = c.1 6 3) ∧ cF [6, 5 * q - 14] c c5 ∧ mF [] m m5 ∧ r < K ∧ jv X ∧ jv Y ∧ c5.1 (5 * q - 14) n = Int32.ofNat r ∧ (∀ z, z ≠ n → c5.1 (5 * q - 14) z = c.1 (5 * q - 14) z) ∧ (c5.1 6 3 = 0 → x = X ∧ y = Y) := by
  obtain ⟨hq1, hq2⟩ := id hq
  obtain ⟨I1, I2, I3, I4⟩ := rI_q hq
  obtain ⟨hK1, hK4, ⟨L, hLK, eL, eM⟩, -⟩ := hL
  have tn : (Int32.ofNat n).toNatClampNeg = n := bp_tn (by omega)
  have vX : jv (pd (m.1 8) n) := pd_v (fun j hj => (hV j hj).2.1)
  have vY : jv (pd (m.1 9) n) := pd_v (fun j hj => (hV j hj).2.2.2)
  have eX : pd (c.1 (5 * q - 13)) n = pd (m.1 8) n := pd_e (fun j hj => (hV j hj).1)
  have eY : pd (c.1 (5 * q - 12)) n = pd (m.1 9) n := pd_e (fun j hj => (hV j hj).2.2.1)
  -- the reference's number
  have hR : ∃ (r : Nat) (cR mR : bp_M), r ≤ L ∧ rT d c m cR mR ∧ bc_PD_readInter N (Int32.ofNat n) 0 c = bc_PD_readInter_L61 N (Int32.ofNat n) 0 (pd (m.1 8) n) (pd (m.1 9) n) (Int32.ofNat r) (Int32.ofNat n) q cR ∧ bm_M_interBlock N (Int32.ofNat n) 0 m = bm_M_interBlock_L43 N (Int32.ofNat n) 0 (pd (m.1 8) n) (pd (m.1 9) n) (Int32.ofNat r) mR := by
    have g8 := m_guessed N hn 0 (o := 8) rfl m
    have g9 := m_guessed N hn 1 (o := 9) rfl m
    have p8 := c_predicted N I1 I2 hn c
    have p9 := c_predicted N I3 I4 hn c
    rw [eX] at p8
    rw [eY] at p9
    by_cases h0 : L = 0
    · have e0 : Int32.ofNat L ≤ 0 := by rw [h0]; decide
      refine ⟨0, c, m, by omega, rT.rf h, ?_, ?_⟩
      · simp only [bc_PD_readInter, bp_nN, hcq, bp_gt hq, p8, bp_cI, p9, not_true, if_false, eL, if_pos e0]
        rfl
      · simp only [bm_M_interBlock, g8, bp_cI, g9, not_true, if_false, eM, if_pos e0]
        rfl
    · have e0 : ¬ Int32.ofNat L ≤ 0 := bp_nl0 (by omega) h0
      obtain ⟨v, c1, m1, q1, q2, q3, q4, q5, w, q6, q7⟩ := z_num N hN (Int32.ofNat L) (Int32.ofNat L) 8 (fun _ _ => Iff.rfl) (by decide) h
      have hw : w ≤ L := by
        by_cases hf : c1.1 6 3 = 0
        · have := q5 hf
          rw [q7] at this
          exact (bp_le (by omega) (by omega)).mp this
        · have := q4 hf
          rw [q7] at this
          have := (bp_eq (b := 0) (by omega) (by omega)).mp this
          omega
      refine ⟨w, c1, m1, hw, q3, ?_, ?_⟩
      · simp only [bc_PD_readInter, bp_nN, hcq, bp_gt hq, p8, bp_cI, p9, not_true, if_false, eL, if_neg e0, q1, q7]
      · simp only [bm_M_interBlock, g8, bp_cI, g9, not_true, if_false, eM, if_neg e0, q2, q7]
  obtain ⟨r, cR, mR, hr, R1, e1, e2⟩ := hR
  have D1 : rD d (bp_sI cR (5 * q - 14) n (Int32.ofNat r)) mR := R1.1.of (fun y => bp_s1o _ _ _ _ (by omega) y) (fun y => bp_s1o _ _ _ _ (by omega) y) rfl rfl rfl (fun _ => rfl)
  obtain ⟨u1, X, a1, a2, b1, s1, k1, k2, k3, k4, k5, k6, k7⟩ := z_vec N hN D1 vX
  obtain ⟨u2, Y, a3, a4, b2, s2, l1, l2, l3, l4, l5, l6, l7⟩ := z_vec N hN k5.1 vY
  have R2 := k5.tr l5
  have eb : ∀ y, a4.1 (5 * q - 14) y = (bp_sI cR (5 * q - 14) n (Int32.ofNat r)).1 (5 * q - 14) y := fun y => R2.2.1.2 _ (by simp; omega) y
  refine ⟨a4, bp_sI b2 0 12 s2, r, X, Y, pd (m.1 8) n + sg u1, pd (m.1 9) n + sg u2, ?_, fun m6 h6 => ?_, l5.1, fun hf => ?_, ⟨?_, fun x hx y => ?_⟩, R1.2.2.1.tr R2.2.2.1, by omega, k7, l7, ?_, fun z hz => ?_, fun hf => ?_⟩
  · rw [e1]
    simp only [bc_PD_readInter_L61, bp_git (in_16 hn), tn, bp_nM, k1, bp_cI, c_sgn, k2, l1, l2]
  · rw [e2]
    have e119 : bm_M_interBlock_L119 N (Int32.ofNat n) 0 (pd (m.1 8) n + sg u1) (pd (m.1 9) n + sg u2) (Int32.ofNat r) s2 b2 = bm_M_interBlock_L127 N (Int32.ofNat n) 0 (pd (m.1 8) n + sg u1) (pd (m.1 9) n + sg u2) (Int32.ofNat r) m6 := by
      simp only [bm_M_interBlock_L119, bp_nM, h6, bp_cV]
    have e79 : bm_M_interBlock_L79 N (Int32.ofNat n) 0 (pd (m.1 8) n + sg u1) (pd (m.1 9) n) (Int32.ofNat r) s1 b1 = bm_M_interBlock_L127 N (Int32.ofNat n) 0 (pd (m.1 8) n + sg u1) (pd (m.1 9) n + sg u2) (Int32.ofNat r) m6 := by
      rw [← e119]
      simp only [bm_M_interBlock_L79, bp_nM, l3, bp_cI, bp_nI, m_within, bm_M_interBlock_L115]
      rw [l4]
      by_cases hz : b2.1 0 12 = 0
      · by_cases hw : (if (pd (m.1 9) n + sg u2) < (-64) then (0 : Int32) else if 64 < (pd (m.1 9) n + sg u2) then 0 else 1) = 0
        · simp only [hz, hw, not_true, if_false]
        · simp only [hz, hw, not_true, not_false_iff, if_true, if_false]
      · simp only [hz, not_false_iff, if_true]
    rw [← e79]
    simp only [bm_M_interBlock_L43, k3, bp_cI, bp_nI, m_within, bm_M_interBlock_L75]
    rw [k4]
    by_cases hz : b1.1 0 12 = 0
    · by_cases hw : (if (pd (m.1 8) n + sg u1) < (-64) then (0 : Int32) else if 64 < (pd (m.1 8) n + sg u1) then 0 else 1) = 0
      · simp only [hz, hw, not_true, if_false]
      · simp only [hz, hw, not_true, not_false_iff, if_true, if_false]
    · simp only [hz, not_false_iff, if_true]
  · have a := R1.2.2.2 hf
    have b := R2.2.2.2 (by rw [bp_s1o _ _ _ _ (by omega), a]; exact hf)
    rw [b, bp_s1o _ _ _ _ (by omega), a]
  · rw [R2.2.1.1]; exact R1.2.1.1
  · have n6 : x ≠ 6 := fun e => hx (by simp [e])
    have n14 : x ≠ 5 * q - 14 := fun e => hx (by simp [e])
    rw [R2.2.1.2 x (by simpa using n6), bp_s1o _ _ _ _ n14, R1.2.1.2 x (by simpa using n6)]
  · rw [eb, bp_s1e]
  · rw [eb, bp_s1k _ _ _ _ hz, R1.2.1.2 _ (by simp; omega)]
  · exact ⟨(k6 (l5.z hf)).symm, (l6 hf).symm⟩
theorem z_inter (N : Nat) (hN : 4000 ≤ N) {d q n K : Nat} (hq : isRO q) (hn : n < 16) (r2 : Int32 → bp_M → Option bp_M) (key : Int32) {cp : Int32} (hcp : cp = 0 ∨ cp = 1) {c m : bp_M} (h : rD d c m) (hcq : c.2 3 6 = q) (hQ : c.1 3 10 = m.1 0 19) (hQ2 : jr 0 11 (m.1 0 19)) (hC : jC m) (h7 : m.1 7 n = 0) (h11 : ∀ i, i < 16 → m.1 11 i = 0) (hin : c.1 (5 * q - 16) n = 1) (hr0 : c.1 (5 * q - 14) n = 0) (hV : ∀ j, j < n → c.1 (5 * q - 13) j = m.1 8 j ∧ jv (m.1 8 j) ∧ c.1 (5 * q - 12) j = m.1 9 j ∧ jv (m.1 9 j)) (hL : zL N K c m) : ∃ c1 m1, bc_PD_readBlocks_L87 r2 N key (Int32.ofNat n) cp (if cp = 0 then 1 else 0) c = r2 (Int32.ofNat (n + 1)) c1 ∧ bm_M_interBlock N (Int32.ofNat n) cp m = some m1 ∧ zU d q n c m c1 m1 := by
  obtain ⟨hq1, hq2⟩ := id hq
  have tn : (Int32.ofNat n).toNatClampNeg = n := bp_tn (by omega)
  -- reading
  have hA : ∃ (c5 m5 : bp_M) (r : Nat) (X Y x y : Int32), bc_PD_readInter N (Int32.ofNat n) cp c = bc_PD_readInter_L106 N (Int32.ofNat n) cp X Y c5 ∧ (∀ m6, ((cp = 0 → bm_M_residual N (Int32.ofNat n) m5 = some m6) ∧ (cp = 1 → m6 = m5)) → bm_M_interBlock N (Int32.ofNat n) cp m = bm_M_interBlock_L127 N (Int32.ofNat n) cp x y (Int32.ofNat r) m6) ∧ rD d c5 m5 ∧ (¬ c.1 6 3 = 0 → c5.1 6 3 = c.1 6 3) ∧ cF [6, 5 * q - 14] c c5 ∧ mF [] m m5 ∧ r < K ∧ jv X ∧ jv Y ∧ c5.1 (5 * q - 14) n = Int32.ofNat r ∧ (∀ z, z ≠ n → c5.1 (5 * q - 14) z = c.1 (5 * q - 14) z) ∧ (c5.1 6 3 = 0 → x = X ∧ y = Y) := by
    rcases hcp with rfl | rfl
    · obtain ⟨c5, m5, r, X, Y, x, y, g1, g2, g3, g4, g5⟩ := z_refvec N hN hq hn h hcq hV hL
      exact ⟨c5, m5, r, X, Y, x, y, g1, fun m6 h6 => g2 m6 (h6.1 rfl), g3, g4, g5⟩
    · obtain ⟨I1, I2, I3, I4⟩ := rI_q hq
      have g8 := m_guessed N hn 0 (o := 8) rfl m
      have g9 := m_guessed N hn 1 (o := 9) rfl m
      have p8 := c_predicted N I1 I2 hn c
      have p9 := c_predicted N I3 I4 hn c
      rw [pd_e (fun j hj => (hV j hj).1)] at p8
      rw [pd_e (fun j hj => (hV j hj).2.2.1)] at p9
      refine ⟨c, m, 0, pd (m.1 8) n, pd (m.1 9) n, pd (m.1 8) n, pd (m.1 9) n, ?_, fun m6 h6 => ?_, h, fun _ => rfl, cF.rf _ _, mF.rf _ _, hL.1, pd_v (fun j hj => (hV j hj).2.1), pd_v (fun j hj => (hV j hj).2.2.2), hr0, fun _ _ => rfl, fun _ => ⟨rfl, rfl⟩⟩
      · simp only [bc_PD_readInter, bp_nN, hcq, bp_gt hq, p8, bp_cI, p9, bp_10, not_false_iff, if_true]
      · rw [h6.2 rfl]
        simp only [bm_M_interBlock, g8, bp_cI, g9, bp_10, not_false_iff, if_true]
        rfl
  obtain ⟨c5, m5, r, X, Y, x, y, A1, A2, A3, A4, A5, A6, A7, A8, A9, A10, A11, A12⟩ := hA
  have hL5 : zL N K c5 m5 := hL.of (fun y => by rw [A5.1]) (A5.2 3 (by simp; omega) 9) (fun o ho y => A5.2 o (by simp; omega) y) (A6.2 20 (by decide) (by decide)) (A6.2 21 (by decide) (by decide)) (A6.2 34 (by decide) (by decide)) (fun y => A6.1 13 (by decide) (by simp) y) (fun y => A6.1 15 (by decide) (by simp) y)
  obtain ⟨p, P1, P2, P3, P4, P5⟩ := hL5.2.2.2 r A7
  have hK4 := hL.2.1
  have cq5 : c5.2 3 6 = q := by rw [A5.1]; exact hcq
  -- the vector stored
  obtain ⟨c6, hc6⟩ : ∃ c6, c6 = bp_sI (bp_sI c5 (5 * q - 13) n X) (5 * q - 12) n Y := ⟨_, rfl⟩
  have c62 : c6.2 = c5.2 := by rw [hc6]; rfl
  have F6 : ∀ o, o ≠ 5 * q - 13 → o ≠ 5 * q - 12 → ∀ z, c6.1 o z = c5.1 o z := fun o a b z => by rw [hc6, bp_s1o _ _ _ _ b, bp_s1o _ _ _ _ a]
  have c6X : c6.1 (5 * q - 13) n = X := by rw [hc6, bp_s1o _ _ _ _ (by omega), bp_s1e]
  have c6Y : c6.1 (5 * q - 12) n = Y := by rw [hc6, bp_s1e]
  have B1 : bc_PD_readInter N (Int32.ofNat n) cp c = some c6 := by
    rw [A1, hc6]
    simp only [bc_PD_readInter_L106, bp_nN, cq5, bp_gt hq, bp_git (in_16 hn), tn, bp_nM, bp_s2]
  have cq6 : c6.2 3 6 = q := by rw [c62]; exact cq5
  have hPI : isPI (c6.2 39 r) := by rw [c62]; exact ⟨by omega, by omega⟩
  have i4 : vp_in (Int32.ofNat r) 4 := bp_in (by omega) (by omega)
  obtain ⟨c7, C1, C2, C3, C4⟩ := c_predict N hN hPI hn X Y c6
  have c6r : c6.1 (5 * q - 14) n = Int32.ofNat r := by rw [F6 _ (by omega) (by omega)]; exact A10
  have c6i : c.1 (5 * q - 16) n = 1 := hin
  have E87 : bc_PD_readBlocks_L87 r2 N key (Int32.ofNat n) cp (if cp = 0 then 1 else 0) c = bc_PD_readBlocks_L161 r2 N key (Int32.ofNat n) (if cp = 0 then 1 else 0) c7 := by
    simp only [bc_PD_readBlocks_L87, bp_nN, hcq, bp_gt hq, bp_git (in_16 hn), tn, hin, bp_10, if_false, B1, bp_cV, cq6, c6r, bp_git i4, bp_tn (show r < 2147483648 by omega), bp_gt hPI, c6X, c6Y, C1]
  have cq7 : c7.2 3 6 = q := by rw [C2.1]; exact cq6
  have D7 : rD d c7 m5 := A3.of (fun y => by rw [C2.2 6 (by decide), F6 6 (by omega) (by omega)]) (fun y => by rw [C2.2 16 (by decide), F6 16 (by omega) (by omega)]) rfl rfl rfl (fun _ => rfl)
  have h75 : m5.1 7 n = 0 := by rw [A6.1 7 (by decide) (by simp)]; exact h7
  have h115 : ∀ i, i < 16 → m5.1 11 i = 0 := fun i hi => by rw [A6.1 11 (by decide) (by simp)]; exact h11 i hi
  have e19 : m5.1 0 19 = m.1 0 19 := A6.2 19 (by decide) (by decide)
  have hT : ∃ c8 m6, bc_PD_readBlocks_L161 r2 N key (Int32.ofNat n) (if cp = 0 then 1 else 0) c7 = r2 (Int32.ofNat (n + 1)) c8 ∧ ((cp = 0 → bm_M_residual N (Int32.ofNat n) m5 = some m6) ∧ (cp = 1 → m6 = m5)) ∧ rD d c8 m6 ∧ (¬ c7.1 6 3 = 0 → c8.1 6 3 = c7.1 6 3) ∧ cF [6, 19, 34, 5 * q - 15] c7 c8 ∧ mF [7, 11] m5 m6 ∧ (c8.1 6 3 = 0 → (∀ i, bo i ≠ n → c8.1 34 i = c7.1 34 i) ∧ (∀ k, k < 16 → c8.1 34 (sn n k) = (if m6.1 7 n = 0 then c7.1 34 (sn n k) else li (c7.1 34 (sn n k) + rA m6 (k / 4) (k % 4)))) ∧ (m6.1 7 n = 0 → ∀ i, i < 16 → m6.1 11 i = 0) ∧ (∀ y, y ≠ n → c8.1 (5 * q - 15) y = c7.1 (5 * q - 15) y ∧ m6.1 7 y = m5.1 7 y) ∧ c8.1 (5 * q - 15) n = m6.1 7 n ∧ jb (m6.1 7 n)) := by
    rcases hcp with rfl | rfl
    · obtain ⟨c8, m6, t1, t2, t3⟩ := z_tail N hN hq hn r2 key D7 cq7 (by rw [C2.2 3 (by decide), F6 3 (by omega) (by omega), A5.2 3 (by simp; omega), e19]; exact hQ) (by rw [e19]; exact hQ2) (jC_of hC (fun o ho y => A6.1 o (by omega) (by simp) y)) h75 h115
      exact ⟨c8, m6, t1, ⟨fun _ => t2, fun e => absurd e (by decide)⟩, t3⟩
    · obtain ⟨c8, t1, t2, t3, t4, t5⟩ := z_tail0 N hq hn r2 key D7 cq7 h75 h115
      exact ⟨c8, m5, t1, ⟨fun e => absurd e bp_10, fun _ => rfl⟩, t2, t3, t4, mF.rf _ _, t5⟩
  obtain ⟨c8, m6, T1, T2, T3, T4, T5, T6, T7⟩ := hT
  have EM := A2 m6 T2
  have c56 : c7.1 6 3 = c5.1 6 3 := by rw [C2.2 6 (by decide), F6 6 (by omega) (by omega)]
  have FC : cF [6, 17, 18, 19, 34, 5 * q - 15, 5 * q - 14, 5 * q - 13, 5 * q - 12] c c8 := by
    refine ((A5.up (by simp)).tr (?_ : cF _ c5 c6)).tr ((C2.up (by simp)).tr (T5.up (by simp)))
    rw [hc6]
    exact ((cF.rf _ _).s _ (by simp)).s _ (by simp)
  rw [E87, T1]
  by_cases hf : c8.1 6 3 = 0
  · obtain ⟨G1, G2, G3, G4, G5, G6⟩ := T7 hf
    have f5 : c5.1 6 3 = 0 := by
      rw [← c56]
      by_cases hz : c7.1 6 3 = 0
      · exact hz
      · rw [T4 hz] at hf; exact absurd hf hz
    obtain ⟨rfl, rfl⟩ := A12 f5
    have hb6 : m6.1 0 12 = 0 := by rw [← T3.2.1]; exact hf
    obtain ⟨m7, hm7⟩ : ∃ m7, m7 = bp_sI (bp_sI (bp_sI m6 8 n x) 9 n y) 10 n (Int32.ofNat r) := ⟨_, rfl⟩
    have F7 : ∀ o, o ≠ 8 → o ≠ 9 → o ≠ 10 → ∀ z, m7.1 o z = m6.1 o z := fun o a b e z => by rw [hm7, bp_s1o _ _ _ _ e, bp_s1o _ _ _ _ b, bp_s1o _ _ _ _ a]
    have FY : ∀ o, ∀ z, z ≠ n → m7.1 o z = m6.1 o z := fun o z hz => by
      rw [hm7, bp_s1, bp_s1, bp_s1, if_neg (fun e => hz e.2), if_neg (fun e => hz e.2), if_neg (fun e => hz e.2)]
    have hli : bm_M_listed N (Int32.ofNat r) m7 = some (Int32.ofNat p, m7) := P4 m7 (fun y => by rw [F7 15 (by decide) (by decide) (by decide), T6.1 15 (by decide) (by decide)]) (by rw [F7 0 (by decide) (by decide) (by decide), T6.2 34 (by decide) (by decide)]) (by rw [F7 0 (by decide) (by decide) (by decide), T6.2 21 (by decide) (by decide)])
    obtain ⟨m8, s1, s2, s3, -, s5⟩ := m_169 N hN hn P1 cp A8 A9 16 0 N m7 (by omega) (by omega)
    have E127 : bm_M_interBlock_L127 N (Int32.ofNat n) cp x y (Int32.ofNat r) m6 = some m8 := by
      simp only [bm_M_interBlock_L127, if_pos hb6, bp_git (in_16 hn), tn, bp_nM]
      rw [← hm7, hli]
      exact s1
    have m13 : ∀ z, m7.1 13 z = m5.1 13 z := fun z => by rw [F7 13 (by decide) (by decide) (by decide), T6.1 13 (by decide) (by decide)]
    have hS : ∀ i, i < 256 → c6.1 (c6.2 39 r + 24) i = m7.1 13 (256 * p + i) := fun i hi => by
      rw [c62, F6 _ (by omega) (by omega), m13]; exact (P5 i hi).1
    have hSy : ∀ i, i < 256 → jy (m7.1 13 (256 * p + i)) := fun i hi => by rw [m13]; exact (P5 i hi).2
    have m8F : ∀ o, o ≠ 5 → ∀ z, m8.1 o z = m7.1 o z := fun o ho z => s2.2 o (by simpa using ho) z
    refine ⟨c8, m8, rfl, EM.trans E127, T3.of (fun _ => rfl) (fun _ => rfl) (by rw [m8F 0 (by decide), F7 0 (by decide) (by decide) (by decide)]) (by rw [m8F 0 (by decide), F7 0 (by decide) (by decide) (by decide)]) (by rw [m8F 0 (by decide), F7 0 (by decide) (by decide) (by decide)]) (fun y => by rw [m8F 4 (by decide), F7 4 (by decide) (by decide) (by decide)]), FC, ⟨fun o o0 ho z => ?_, fun z a b => ?_⟩, fun _ => ⟨?_, fun i hi => ⟨?_, ?_⟩, fun k hk => ?_, fun z hz => ⟨fun o ho => ?_, fun o ho => ?_⟩, ?_, ?_, ?_, ?_, ?_, ?_, ?_⟩⟩
    · simp only [List.mem_cons, not_or] at ho
      rw [m8F o ho.1, F7 o (by omega) (by omega) (by omega), T6.1 o o0 (by simp; omega), A6.1 o o0 (by simp)]
    · rw [m8F 0 (by decide), F7 0 (by decide) (by decide) (by decide), T6.2 z a b, A6.2 z a b]
    · by_cases hz : c.1 6 3 = 0
      · exact hz
      · rw [A4 hz] at f5; exact absurd f5 hz
    · rw [G1 i hi, C3 i hi, F6 34 (by omega) (by omega), A5.2 34 (by simp; omega)]
    · rw [s3 i hi, F7 5 (by decide) (by decide) (by decide), T6.1 5 (by decide) (by decide), A6.1 5 (by decide) (by simp)]
    · have er : rA m7 (k / 4) (k % 4) = rA m6 (k / 4) (k % 4) := rA_e (fun _ => F7 3 (by decide) (by decide) (by decide) _) (fun _ => F7 11 (by decide) (by decide) (by decide) _) _ _
      have ev : c7.1 34 (sn n k) = hb (fun i => m7.1 13 (256 * p + i)) x y n k := (C4 k hk).trans (hv_e hS _ _ _ _)
      rw [s5 k (by omega) hk, G2 k hk, ev, er]
      refine ⟨?_, li_y _⟩
      by_cases hz : m6.1 7 n = 0
      · rw [if_pos hz, rA_0 (G3 hz), Int32.add_zero]
        exact (li_id (show jy (hb (fun i => m7.1 13 (256 * p + i)) x y n k) from hv_y hSy _ _ _ _)).symm
      · rw [if_neg hz]
    · rcases (show o = 5 * q - 15 ∨ o = 5 * q - 14 ∨ o = 5 * q - 13 ∨ o = 5 * q - 12 by omega) with rfl | rfl | rfl | rfl
      · rw [(G4 z hz).1, C2.2 _ (by simp; omega), F6 _ (by omega) (by omega), A5.2 _ (by simp; omega)]
      · rw [T5.2 _ (by simp; omega), C2.2 _ (by simp; omega), F6 _ (by omega) (by omega), A11 z hz]
      · rw [T5.2 _ (by simp; omega), C2.2 _ (by simp; omega), hc6, bp_s1o _ _ _ _ (by omega), bp_s1k _ _ _ _ hz, A5.2 _ (by simp; omega)]
      · rw [T5.2 _ (by simp; omega), C2.2 _ (by simp; omega), hc6, bp_s1k _ _ _ _ hz, bp_s1o _ _ _ _ (by omega), A5.2 _ (by simp; omega)]
    · rw [m8F o (by omega), FY o z hz]
      by_cases h7o : o = 7
      · subst h7o
        rw [(G4 z hz).2, A6.1 7 (by decide) (by simp)]
      · rw [T6.1 o (by omega) (by simp; omega), A6.1 o (by omega) (by simp)]
    · rw [m8F 7 (by decide), F7 7 (by decide) (by decide) (by decide)]; exact G5
    · rw [m8F 7 (by decide), F7 7 (by decide) (by decide) (by decide)]; exact G6
    · rw [m8F 10 (by decide), hm7, bp_s1e, T5.2 _ (by simp; omega), C2.2 _ (by simp; omega)]; exact c6r
    · rw [m8F 8 (by decide), hm7, bp_s1o _ _ _ _ (by decide), bp_s1o _ _ _ _ (by decide), bp_s1e, T5.2 _ (by simp; omega), C2.2 _ (by simp; omega)]; exact c6X
    · rw [m8F 8 (by decide), hm7, bp_s1o _ _ _ _ (by decide), bp_s1o _ _ _ _ (by decide), bp_s1e]; exact A8
    · rw [m8F 9 (by decide), hm7, bp_s1o _ _ _ _ (by decide), bp_s1e, T5.2 _ (by simp; omega), C2.2 _ (by simp; omega)]; exact c6Y
    · rw [m8F 9 (by decide), hm7, bp_s1o _ _ _ _ (by decide), bp_s1e]; exact A9
  · have hb6 : ¬ m6.1 0 12 = 0 := by rw [← T3.2.1]; exact hf
    refine ⟨c8, m6, rfl, EM.trans ?_, T3, FC, (A6.up (by simp)).tr (T6.up (by simp)), fun hn => absurd hn hf⟩
    unfold bm_M_interBlock_L127
    rw [if_neg hb6]

theorem z_78 (N : Nat) (hN : 4000 ≤ N) {n : Nat} (hn : n < 16) {c m : bp_M} (hS : zS n c m) (w : Nat) : ∃ v, ∀ m' : bp_M, (∀ i, m'.1 5 i = m.1 5 i) → bm_M_intraBlock_L78 N (Int32.ofNat n) (Int32.ofNat w) (Int32.ofNat (fA n)) (Int32.ofNat (fB n)) m' = bm_M_intraBlock_L201 N (Int32.ofNat n) N (Int32.ofNat w) (Int32.ofNat (sn n 0)) v (Int32.ofNat 0) m' := by
  obtain ⟨T, t1, t2, t3⟩ := z_sum N hn (fA_b n).1 (fB_b n).1 (fA_b n).2.1 (fB_b n).2.1 (Int32.ofNat w) hS 4 0 N N 0 (by omega) (by omega) (by omega) (by omega)
  refine ⟨me (fA n) (fB n) T, fun m' hm' => ?_⟩
  unfold bm_M_intraBlock_L78
  rw [m_corner N hn]
  simp only [bp_cI]
  exact (t3 m' hm').trans (m_157 N _ _ _ _ _ _ _)
theorem m_201F (N : Nat) {u : Nat} (hu : u ≠ 0) (a md x v k : Int32) {m : bp_M} (hb : ¬ m.1 0 12 = 0) : bm_M_intraBlock_L201 N a u md x v k m = some m := by
  obtain ⟨u, rfl⟩ := Nat.exists_eq_succ_of_ne_zero hu
  rw [bm_M_intraBlock_L201]
  split
  · rfl
  · rfl
theorem bp_n90 : ¬ (9 : Int32) = 0 := by decide
theorem fA_0 {n : Nat} (h : n < 4) : Int32.ofNat (fA n) = 0 := by unfold fA; rw [if_pos h]; rfl
theorem fA_1 {n : Nat} (h : 4 ≤ n) : ¬ Int32.ofNat (fA n) = 0 := by unfold fA; rw [if_neg (by omega)]; decide
theorem fB_0 {n : Nat} (h : n % 4 = 0) : Int32.ofNat (fB n) = 0 := by unfold fB; rw [if_pos h]; rfl
theorem fB_1 {n : Nat} (h : 0 < n % 4) : ¬ Int32.ofNat (fB n) = 0 := by unfold fB; rw [if_neg (by omega)]; decide
theorem z_intra (N : Nat) (hN : 4000 ≤ N) {d q n : Nat} (hq : isRO q) (hn : n < 16) (r2 : Int32 → bp_M → Option bp_M) (key : Int32) {c m : bp_M} (h : rD d c m) (hcq : c.2 3 6 = q) (hQ : c.1 3 10 = m.1 0 19) (hQ2 : jr 0 11 (m.1 0 19)) (hC : jC m) (h7 : m.1 7 n = 0) (h11 : ∀ i, i < 16 → m.1 11 i = 0) (hS : zS n c m) : ∃ c1 m1, (bp_cI (bc_PD_readIntra N (Int32.ofNat n) c) fun z3 m2 => bc_PD_readBlocks_L161 r2 N key (Int32.ofNat n) z3 m2) = r2 (Int32.ofNat (n + 1)) c1 ∧ bm_M_intraBlock N (Int32.ofNat n) m = some m1 ∧ zT d q n c m c1 m1 := by
  obtain ⟨hq1, hq2⟩ := id hq
  have tn : (Int32.ofNat n).toNatClampNeg = n := bp_tn (by omega)
  obtain ⟨v, c1, m1, q1, q2, q3, q4, w, q5, q6⟩ := z_bits N hN (z := 2) (by omega) h
  have q1' : bc_BR_bits N 2 c = some (v, c1) := q1
  have q2' : bm_M_bits N 2 m = some (v, m1) := q2
  have w4 : w < 4 := q5
  have eC : (bp_cI (bc_PD_readIntra N (Int32.ofNat n) c) fun z3 m2 => bc_PD_readBlocks_L161 r2 N key (Int32.ofNat n) z3 m2) = bp_cI (bI N (Int32.ofNat n) (Int32.ofNat w) c1) fun z3 m2 => bc_PD_readBlocks_L161 r2 N key (Int32.ofNat n) z3 m2 := by
    have : bc_PD_readIntra N (Int32.ofNat n) c = bI N (Int32.ofNat n) (Int32.ofNat w) c1 := by
      unfold bc_PD_readIntra
      rw [q1', q6]
      rfl
    rw [this]
  have eM : bm_M_intraBlock N (Int32.ofNat n) m = bm_M_intraBlock_L28 N (Int32.ofNat n) (Int32.ofNat w) (Int32.ofNat (fA n)) (Int32.ofNat (fB n)) m1 := by
    rw [← m_L28 N hn]
    unfold bm_M_intraBlock
    rw [q2', q6]
    rfl
  have c34 : ∀ y, c1.1 34 y = c.1 34 y := fun y => q3.2.1.2 34 (by decide) y
  have c15 : ∀ y, c1.1 (5 * q - 15) y = c.1 (5 * q - 15) y := fun y => q3.2.1.2 _ (by simp; omega) y
  have cq1 : c1.2 3 6 = q := by rw [q3.2.1.1]; exact hcq
  have m5 : ∀ y, m1.1 5 y = m.1 5 y := fun y => q3.2.2.1.1 5 (by decide) (by simp) y
  have m7 : ∀ y, m1.1 7 y = m.1 7 y := fun y => q3.2.2.1.1 7 (by decide) (by simp) y
  have m11 : ∀ y, m1.1 11 y = m.1 11 y := fun y => q3.2.2.1.1 11 (by decide) (by simp) y
  have hS1 : zS n c1 m1 := fun i hi hb => by rw [c34, m5]; exact hS i hi hb
  have hQ1 : c1.1 3 10 = m1.1 0 19 := by rw [q3.2.1.2 3 (by decide), q3.2.2.1.2 19 (by decide) (by decide)]; exact hQ
  have hQ21 : jr 0 11 (m1.1 0 19) := by rw [q3.2.2.1.2 19 (by decide) (by decide)]; exact hQ2
  have hC1 : jC m1 := jC_of hC (fun o ho y => q3.2.2.1.1 o (by omega) (by simp) y)
  rw [eC, eM]
  by_cases hw0 : w = 0
  · subst hw0
    obtain ⟨v2, e78⟩ := z_78 N hN hn hS1 0
    obtain ⟨c2, m2, p1, p2', p3, p4, p5, p6, p7⟩ := z_raw N hN hn v2 16 0 N N c1 m1 (by omega) (by omega) (by omega) q3.1
    have cq2 : c2.2 3 6 = q := by rw [p5.1]; exact cq1
    have eb : bI N (Int32.ofNat n) (Int32.ofNat 0) c1 = some (0, c2) := by
      unfold bI
      rw [if_neg (fun hn => hn rfl)]
      exact p1
    have e28 : bm_M_intraBlock_L28 N (Int32.ofNat n) (Int32.ofNat 0) (Int32.ofNat (fA n)) (Int32.ofNat (fB n)) m1 = some m2 := by
      unfold bm_M_intraBlock_L28
      rw [if_pos (by decide)]
      unfold bm_M_intraBlock_L39
      rw [if_pos (by decide)]
      unfold bm_M_intraBlock_L69
      rw [if_pos (by decide), e78 m1 (fun _ => rfl)]
      exact p2'
    refine ⟨bp_sI c2 (5 * q - 15) n 0, m2, ?_, e28, p3.of (fun y => bp_s1o _ _ _ _ (by omega) y) (fun y => bp_s1o _ _ _ _ (by omega) y) rfl rfl rfl (fun _ => rfl), ((q3.2.1.up (by simp)).tr (p5.up (by simp))).s _ (by simp), (q3.2.2.1.up (by simp)).tr (p6.up (by simp)), fun hf => ?_⟩
    · rw [eb]
      simp only [bp_cI, bc_PD_readBlocks_L161, bp_nN, cq2, bp_gt hq, if_true, bc_PD_readBlocks_L188, bc_PD_readBlocks_L189, bp_git (in_16 hn), tn, bp_g, true_or, bp_nM, bp_s2, if_pos hq, bp_s1e, bc_PD_readBlocks_L211, bp_nI, bp_inc]
    · rw [bp_s1o _ _ _ _ (by omega)] at hf
      have hf1 : c1.1 6 3 = 0 := by
        by_cases hz : c1.1 6 3 = 0
        · exact hz
        · rw [p4 hz] at hf; exact absurd hf hz
      obtain ⟨g1, -, g3⟩ := p7 hf
      have m72 : ∀ y, m2.1 7 y = m.1 7 y := fun y => by rw [p6.1 7 (by decide) (by decide), m7]
      refine ⟨q3.z hf1, fun i hi => ⟨?_, ?_⟩, fun k hk => ?_, fun y hy => ⟨?_, m72 y⟩, ?_, ?_⟩
      · rw [bp_s1o _ _ _ _ (by omega), (g1 i hi).1, c34]
      · rw [(g1 i hi).2, m5]
      · rw [bp_s1o _ _ _ _ (by omega)]; exact g3 k (by omega) hk
      · rw [bp_s1k _ _ _ _ hy, p5.2 _ (by simp; omega), c15]
      · rw [bp_s1e, m72, h7]
      · rw [m72, h7]; exact Or.inl rfl
  · have hf1 : c1.1 6 3 = 0 := by
      by_cases hz : c1.1 6 3 = 0
      · exact hz
      · have := q4 hz
        rw [q6] at this
        exact absurd this (bp_ne0 (by omega) hw0)
    have hw : ¬ Int32.ofNat w ≤ 0 := bp_nl0 (by omega) hw0
    have hb1 : m1.1 0 12 = 0 := by rw [← q3.1.2.1]; exact hf1
    have e69 : ∀ mx my : bp_M, bm_M_residual N (Int32.ofNat n) mx = some my → bm_M_intraBlock_L69 N (Int32.ofNat n) (Int32.ofNat w) (Int32.ofNat (fA n)) (Int32.ofNat (fB n)) mx = bm_M_intraBlock_L78 N (Int32.ofNat n) (Int32.ofNat w) (Int32.ofNat (fA n)) (Int32.ofNat (fB n)) my := fun mx my hr => by
      unfold bm_M_intraBlock_L69
      rw [if_neg hw, hr]
      rfl
    by_cases hval : (w = 2 → 4 ≤ n) ∧ (w = 3 → 0 < n % 4)
    · obtain ⟨hv2, hv3⟩ := hval
      obtain ⟨vv, c2, p1, ⟨p2', p3, p4⟩, p5, p6⟩ := z_pre N hN hn hS1 (by omega) (by omega) hv2 hv3
      have cq2 : c2.2 3 6 = q := by rw [p2'.1]; exact cq1
      obtain ⟨c3, m3, t1, t2, t3, t4, t5, t6', t7⟩ := z_tail N hN hq hn r2 key (c := c2) (m := m1) (q3.1.of (fun y => p2'.2 6 (by decide) y) (fun y => p2'.2 16 (by decide) y) rfl rfl rfl (fun _ => rfl)) cq2 (by rw [p2'.2 3 (by decide)]; exact hQ1) hQ21 hC1 (by rw [m7]; exact h7) (fun i hi => by rw [m11]; exact h11 i hi)
      have m53 : ∀ y, m3.1 5 y = m1.1 5 y := fun y => t6'.1 5 (by decide) (by decide) y
      have e28 : bm_M_intraBlock_L28 N (Int32.ofNat n) (Int32.ofNat w) (Int32.ofNat (fA n)) (Int32.ofNat (fB n)) m1 = bm_M_intraBlock_L201 N (Int32.ofNat n) N (Int32.ofNat w) (Int32.ofNat (sn n 0)) vv (Int32.ofNat 0) m3 := by
        rw [← p6 m3 m53, ← e69 m1 m3 t2]
        unfold bm_M_intraBlock_L28 bm_M_intraBlock_L39
        by_cases h2 : w = 2
        · subst h2
          rw [if_neg (fun hn => hn rfl), if_neg (fA_1 (hv2 rfl)), if_pos (by decide)]
        · have ne2 : ¬ Int32.ofNat w = 2 := fun e => h2 ((bp_eq (b := 2) (by omega) (by omega)).mp e)
          rw [if_pos ne2]
          by_cases h3 : w = 3
          · subst h3
            rw [if_neg (fun hn => hn rfl), if_pos (fB_1 (hv3 rfl))]
          · have ne3 : ¬ Int32.ofNat w = 3 := fun e => h3 ((bp_eq (b := 3) (by omega) (by omega)).mp e)
            rw [if_pos ne3]
      have fcc : cF [6, 17, 18, 19, 34, 5 * q - 15] c c3 := ((q3.2.1.up (by simp)).tr (p2'.up (by simp))).tr (t5.up (by simp))
      have eC3 : (bp_cI (bI N (Int32.ofNat n) (Int32.ofNat w) c1) fun z3 m2 => bc_PD_readBlocks_L161 r2 N key (Int32.ofNat n) z3 m2) = r2 (Int32.ofNat (n + 1)) c3 := by
        rw [p1]
        exact t1
      by_cases hf3 : c3.1 6 3 = 0
      · have hb3 : m3.1 0 12 = 0 := by rw [← t3.2.1]; exact hf3
        obtain ⟨g1, g2, g3, g4, g5, g6⟩ := t7 hf3
        obtain ⟨m4, s1, s2, s3, -, s5⟩ := m_201 N hN hn (md := Int32.ofNat w) (v := vv) (bp_ne0 (by omega) hw0) (fun e => hv2 ((bp_eq (b := 2) (by omega) (by omega)).mp e)) (fun e1 e2 => hv3 (by
          have a1 : w ≠ 1 := fun e => e1 (by rw [e]; rfl)
          have a2 : w ≠ 2 := fun e => e2 (by rw [e]; rfl)
          omega)) 16 0 N m3 (by omega) (by omega) hb3
        have hg : ∀ k, gs m3 (Int32.ofNat w) vv n k = gs m1 (Int32.ofNat w) vv n k := fun k => by
          unfold gs
          simp only [m53]
        refine ⟨c3, m4, eC3, e28.trans s1, t3.of (fun _ => rfl) (fun _ => rfl) (s2.2 0 (by decide) _) (s2.2 0 (by decide) _) (s2.2 0 (by decide) _) (fun y => s2.2 4 (by decide) y), fcc, ⟨fun x x0 hx y => ?_, fun y a b => ?_⟩, fun _ => ⟨q3.z hf1, fun i hi => ⟨?_, ?_⟩, fun k hk => ?_, fun y hy => ⟨?_, ?_⟩, ?_, ?_⟩⟩
        · have hx5 : x ≠ 5 := fun e => hx (by simp [e])
          rw [s2.2 x (by simpa using hx5), t6'.1 x x0 (fun e => hx (by simp at e; simp; omega)), q3.2.2.1.1 x x0 (by simp)]
        · rw [s2.2 0 (by decide), t6'.2 y a b, q3.2.2.1.2 y a b]
        · rw [g1 i hi, p3 i hi, c34]
        · rw [s3 i hi, m53, m5]
        · rw [s5 k (by omega) hk, g2 k hk, p4 k hk, hg]
          refine ⟨?_, li_y _⟩
          by_cases hz : m3.1 7 n = 0
          · rw [if_pos hz, rA_0 (g3 hz), Int32.add_zero, li_id (p5 k hk)]
          · rw [if_neg hz]
        · rw [(g4 y hy).1, p2'.2 _ (by simp; omega), c15]
        · rw [s2.2 7 (by decide), (g4 y hy).2, m7]
        · rw [s2.2 7 (by decide)]; exact g5
        · rw [s2.2 7 (by decide)]; exact g6
      · have hb3 : ¬ m3.1 0 12 = 0 := by rw [← t3.2.1]; exact hf3
        exact ⟨c3, m3, eC3, e28.trans (m_201F N (by omega) _ _ _ _ _ hb3), t3, fcc, (q3.2.2.1.up (by simp)).tr (t6'.up (by simp)), fun hn => absurd hn hf3⟩
    · obtain ⟨vv, p6⟩ := z_78 N hN hn hS1 w
      have hinv : (w = 2 ∧ n < 4) ∨ (w = 3 ∧ n % 4 = 0) := by omega
      have R := rT.f q3.1 bp_n90
      rw [if_pos hf1, if_pos hb1] at R
      have eb : bI N (Int32.ofNat n) (Int32.ofNat w) c1 = some (1, bp_sI c1 6 3 9) := by
        have e110 : bc_PD_readIntra_L110 N (Int32.ofNat n) (Int32.ofNat w) c1 = some (1, bp_sI c1 6 3 9) := by
          have : ¬ Int32.ofNat w = 0 := bp_ne0 (by omega) hw0
          simp only [bc_PD_readIntra_L110, c_failM, if_pos hf1, bp_cV, bc_PD_readIntra_L119, if_neg this, bc_PD_readIntra_L128, bp_g, or_true, if_true]
        rw [← e110]
        unfold bI bc_PD_readIntra_L87
        rcases hinv with ⟨rfl, h4⟩ | ⟨rfl, h4⟩
        · rw [if_pos (by decide), if_pos (by decide), if_neg (fun hn => hn rfl), if_pos ((lt_4 hn).mpr h4), if_pos (by decide)]
        · rw [if_pos (by decide), if_pos (by decide), if_pos (by decide), if_neg (fun hn => hn rfl), if_pos ((m4_0 hn).mpr h4)]
      have cq2 : (bp_sI c1 6 3 9).2 3 6 = q := cq1
      obtain ⟨c3, m3, t1, t2, t3, t4, t5, t6', t7⟩ := z_tail N hN hq hn r2 key (c := bp_sI c1 6 3 9) (m := bp_sI m1 0 12 9) R.1 cq2 (by rw [bp_s1o _ _ _ _ (by decide), bp_s1k _ _ _ _ (by decide)]; exact hQ1) (by rw [bp_s1k _ _ _ _ (by decide)]; exact hQ21) (jC_of hC1 (fun o ho y => bp_s1o _ _ _ _ (by omega) y)) (by rw [bp_s1o _ _ _ _ (by decide), m7]; exact h7) (fun i hi => by rw [bp_s1o _ _ _ _ (by decide), m11]; exact h11 i hi)
      have hf3 : ¬ c3.1 6 3 = 0 := by
        rw [t4 (by rw [bp_s1e]; exact bp_n90), bp_s1e]; exact bp_n90
      have hb3 : ¬ m3.1 0 12 = 0 := by rw [← t3.2.1]; exact hf3
      have m53 : ∀ y, m3.1 5 y = m1.1 5 y := fun y => by rw [t6'.1 5 (by decide) (by decide), bp_s1o _ _ _ _ (by decide)]
      have e49 : bm_M_intraBlock_L49 N (Int32.ofNat n) (Int32.ofNat w) (Int32.ofNat (fA n)) (Int32.ofNat (fB n)) m1 = some m3 := by
        unfold bm_M_intraBlock_L49 bm_M_intraBlock_L66
        rw [if_neg (fun hn => hn hb1)]
        simp only [bp_nM]
        rw [e69 _ m3 t2, p6 m3 m53, m_201F N (by omega) _ _ _ _ _ hb3]
      refine ⟨c3, m3, ?_, ?_, t3, ((q3.2.1.up (by simp)).tr (R.2.1.up (by simp))).tr (t5.up (by simp)), ((q3.2.2.1.up (by simp)).tr (R.2.2.1.up (by simp))).tr (t6'.up (by simp)), fun hn => absurd hn hf3⟩
      · rw [eb]
        exact t1
      · rw [← e49]
        unfold bm_M_intraBlock_L28 bm_M_intraBlock_L39
        rcases hinv with ⟨rfl, h4⟩ | ⟨rfl, h4⟩
        · rw [if_neg (fun hn => hn rfl), if_pos (fA_0 h4)]
        · rw [if_pos (by decide), if_neg (fun hn => hn rfl), if_neg (fun hn => hn (fB_0 h4))]

/-! Blocks predicted from neighbours, the reference's loop, plain samples, the residual behind. -/
/-- the reference's guess in mode md -/
def gs (m : bp_M) (md : Int32) (v : Int32) (n k : Nat) : Int32 := if ¬ md = 1 then (if ¬ md = 2 then m.1 5 (sn n 0 - 1 + 16 * (k / 4)) else m.1 5 (sn n 0 - 16 + k % 4)) else v
theorem m_201 (N : Nat) (hN : 4000 ≤ N) {n : Nat} (hn : n < 16) {md v : Int32} (h0 : ¬ md = 0) (h2 : md = 2 → 4 ≤ n) (h3 : ¬ md = 1 → ¬ md = 2 → 0 < n % 4) : ∀ (j k u : Nat) (m : bp_M), k + j = 16 → j < u → m.1 0 12 = 0 → ∃ m1, bm_M_intraBlock_L201 N (Int32.ofNat n) u md (Int32.ofNat (sn n 0)) v (Int32.ofNat k) m = some m1 ∧ cF [5] m m1 ∧ (∀ i, bo i ≠ n → m1.1 5 i = m.1 5 i) ∧ (∀ i, i < k → m1.1 5 (sn n i) = m.1 5 (sn n i)) ∧ ∀ i, k ≤ i → i < 16 → m1.1 5 (sn n i) = li (gs m md v n i + rA m (i / 4) (i % 4)) := by
  intro j
  induction j with
  | zero =>
    intro k u m hk hu _
    obtain ⟨u, rfl⟩ := Nat.exists_eq_succ_of_ne_zero (by omega : u ≠ 0)
    obtain rfl : k = 16 := by omega
    refine ⟨m, ?_, cF.rf _ _, fun _ _ => rfl, fun _ _ => rfl, fun i h1 h2 => by omega⟩
    rw [bm_M_intraBlock_L201, if_pos (by decide)]
    rfl
  | succ j ih =>
    intro k u m hk hu hb
    obtain ⟨u, rfl⟩ := Nat.exists_eq_succ_of_ne_zero (by omega : u ≠ 0)
    have hlt := sn_lt hn (show k < 16 by omega)
    have i1 : vp_in (Int32.ofNat (sn n k)) 256 := bp_in (by omega) hlt
    have e0 := sn_0 n
    have ek : sn n 0 + 16 * (k / 4) + k % 4 = sn n k := by unfold sn; omega
    obtain ⟨m1, q1, q2, q3, q4, q5⟩ := ih (k + 1) u (bp_sI m 5 (sn n k) (li (gs m md v n k + rA m (k / 4) (k % 4)))) (by omega) (by omega) (by rw [bp_s1o _ _ _ _ (by decide)]; exact hb)
    have e302 : bm_M_intraBlock_L302 (bm_M_intraBlock_L201 N (Int32.ofNat n) u) N (Int32.ofNat n) md (Int32.ofNat (sn n 0)) v (Int32.ofNat k) (Int32.ofNat (sn n k)) (gs m md v n k) m = some m1 := by
      simp only [bm_M_intraBlock_L302, b4 (show k < 100000 by omega), r4 (show k < 100000 by omega), m_added N hN (show k / 4 < 4 by omega) (show k % 4 < 4 by omega), bp_cI, m_limit, bp_git i1, bp_tn (show sn n k < 2147483648 by omega), bp_nM, bm_M_intraBlock_L329, bp_nI, bp_inc]
      exact q1
    have hg : ∀ (z : Int32) (i : Nat), i < 16 → gs (bp_sI m 5 (sn n k) z) md v n i = gs m md v n i := fun z i hi => by
      unfold gs
      by_cases c1 : md = 1
      · rw [if_neg (fun hn => hn c1), if_neg (fun hn => hn c1)]
      · rw [if_pos c1, if_pos c1]
        by_cases c2 : md = 2
        · have h4 := h2 c2
          rw [if_neg (fun hn => hn c2), if_neg (fun hn => hn c2), bp_s1k _ _ _ _ (fun e => by
            have : bo (sn n 0 - 16 + i % 4) = n := by rw [e]; exact bo_sn hn (by omega)
            unfold bo at this; omega)]
        · have h4 := h3 c1 c2
          rw [if_pos c2, if_pos c2, bp_s1k _ _ _ _ (fun e => by
            have : bo (sn n 0 - 1 + 16 * (i / 4)) = n := by rw [e]; exact bo_sn hn (by omega)
            unfold bo at this; omega)]
    have hr : ∀ y x, rA (bp_sI m 5 (sn n k) (li (gs m md v n k + rA m (k / 4) (k % 4)))) y x = rA m y x := fun y x => rA_e (fun _ => bp_s1o _ _ _ _ (by decide) _) (fun _ => bp_s1o _ _ _ _ (by decide) _) y x
    refine ⟨m1, ?_, ((cF.rf [5] m).s _ (by decide)).tr q2, fun i hi => ?_, fun i hi => ?_, fun i h1 h2 => ?_⟩
    · rw [bm_M_intraBlock_L201, if_neg (ge16 (by omega)), if_neg (fun hn => hn hb)]
      rw [← e302]
      simp only [b4 (show k < 100000 by omega), r4 (show k < 100000 by omega), x16, bp_add, ek, bp_nI]
      rw [if_pos h0]
      unfold gs
      by_cases c1 : md = 1
      · rw [if_neg (fun hn => hn c1), if_neg (fun hn => hn c1)]
      · rw [if_pos c1, if_pos c1]
        by_cases c2 : md = 2
        · have h4 := h2 c2
          have i2 : vp_in (Int32.ofNat (sn n 0 - 16 + k % 4)) 256 := bp_in (by omega) (by omega)
          rw [if_neg (fun hn => hn c2), if_neg (fun hn => hn c2), show (16 : Int32) = Int32.ofNat 16 from rfl, bp_sub (by omega), bp_add, bp_git i2, bp_tn (by omega)]
        · have h4 := h3 c1 c2
          have i2 : vp_in (Int32.ofNat (sn n 0 - 1 + 16 * (k / 4))) 256 := bp_in (by omega) (by omega)
          rw [if_pos c2, if_pos c2, show (1 : Int32) = Int32.ofNat 1 from rfl, bp_sub (by omega), bp_add, bp_git i2, bp_tn (by omega)]
    · rw [q3 i hi, bp_s1k _ _ _ _ (fun e => hi (by rw [e]; exact bo_sn hn (by omega)))]
    · rw [q4 i (by omega), bp_s1k _ _ _ _ (fun e => by have := sn_in hn (by omega) (by omega) e; omega)]
    · by_cases he : i = k
      · subst he
        rw [q4 i (by omega), bp_s1e]
      · rw [q5 i (by omega) h2, hg _ i h2, hr]
/-- plain samples behind a failure -/
theorem c_rawF (N : Nat) (hN : 4000 ≤ N) {n : Nat} (hn : n < 16) : ∀ (j k u : Nat) (c : bp_M), k + j = 16 → j < u → ¬ c.1 6 3 = 0 → ∃ c1, bc_PD_readIntra_L15 N (Int32.ofNat n) u 0 (Int32.ofNat k) c = some (0, c1) ∧ cF [34] c c1 := by
  intro j
  induction j with
  | zero =>
    intro k u c hk hu hf
    obtain ⟨u, rfl⟩ := Nat.exists_eq_succ_of_ne_zero (by omega : u ≠ 0)
    obtain rfl : k = 16 := by omega
    refine ⟨c, ?_, cF.rf _ _⟩
    rw [bc_PD_readIntra_L15, if_pos (by decide)]
    simp only [bc_PD_readIntra_L49, bc_PD_readIntra_L119, if_true, bc_PD_readIntra_L128, bp_g, true_or]
  | succ j ih =>
    intro k u c hk hu hf
    obtain ⟨u, rfl⟩ := Nat.exists_eq_succ_of_ne_zero (by omega : u ≠ 0)
    have hlt := sn_lt hn (show k < 16 by omega)
    have i1 : vp_in (Int32.ofNat (sn n k)) 256 := bp_in (by omega) hlt
    have eb : bc_BR_bits N 8 c = some (0, c) := by
      have := c_bitsF N (c := c) (P := c.1 6 1) hf (z := 8) (by omega) 8 0 N 0 (by omega) (by omega)
      rw [cb_id] at this
      exact this
    obtain ⟨c1, q1, q2⟩ := ih (k + 1) u (bp_sI c 34 (sn n k) 0) (by omega) (by omega) (by rw [bp_s1o _ _ _ _ (by decide)]; exact hf)
    refine ⟨c1, ?_, ((cF.rf [34] c).s _ (by decide)).tr q2⟩
    rw [bc_PD_readIntra_L15, if_neg (ge16 (by omega))]
    simp only [c_sn N hn (show k < 16 by omega), bp_cI, eb, bp_git i1, bp_tn (show sn n k < 2147483648 by omega), bp_nM, bp_nI, bp_inc]
    exact q1
theorem z_raw (N : Nat) (hN : 4000 ≤ N) {d n : Nat} (hn : n < 16) (v : Int32) : ∀ (j k u w : Nat) (c m : bp_M), k + j = 16 → j < u → j < w → rD d c m → ∃ c1 m1, bc_PD_readIntra_L15 N (Int32.ofNat n) u 0 (Int32.ofNat k) c = some (0, c1) ∧ bm_M_intraBlock_L201 N (Int32.ofNat n) w 0 (Int32.ofNat (sn n 0)) v (Int32.ofNat k) m = some m1 ∧ rD d c1 m1 ∧ (¬ c.1 6 3 = 0 → c1.1 6 3 = c.1 6 3) ∧ cF [6, 34] c c1 ∧ mF [5] m m1 ∧ (c1.1 6 3 = 0 → (∀ i, bo i ≠ n → c1.1 34 i = c.1 34 i ∧ m1.1 5 i = m.1 5 i) ∧ (∀ i, i < k → c1.1 34 (sn n i) = c.1 34 (sn n i) ∧ m1.1 5 (sn n i) = m.1 5 (sn n i)) ∧ ∀ i, k ≤ i → i < 16 → c1.1 34 (sn n i) = m1.1 5 (sn n i) ∧ jy (m1.1 5 (sn n i))) := by
  intro j
  induction j with
  | zero =>
    intro k u w c m hk hu hw h
    obtain ⟨u, rfl⟩ := Nat.exists_eq_succ_of_ne_zero (by omega : u ≠ 0)
    obtain ⟨w, rfl⟩ := Nat.exists_eq_succ_of_ne_zero (by omega : w ≠ 0)
    obtain rfl : k = 16 := by omega
    refine ⟨c, m, ?_, ?_, h, fun _ => rfl, cF.rf _ _, mF.rf _ _, fun _ => ⟨fun _ _ => ⟨rfl, rfl⟩, fun _ _ => ⟨rfl, rfl⟩, fun i h1 h2 => by omega⟩⟩
    · rw [bc_PD_readIntra_L15, if_pos (by decide)]
      simp only [bc_PD_readIntra_L49, bc_PD_readIntra_L119, if_true, bc_PD_readIntra_L128, bp_g, true_or]
    · rw [bm_M_intraBlock_L201, if_pos (by decide)]
      rfl
  | succ j ih =>
    intro k u w c m hk hu hw h
    obtain ⟨u, rfl⟩ := Nat.exists_eq_succ_of_ne_zero (by omega : u ≠ 0)
    obtain ⟨w, rfl⟩ := Nat.exists_eq_succ_of_ne_zero (by omega : w ≠ 0)
    have hlt := sn_lt hn (show k < 16 by omega)
    have i1 : vp_in (Int32.ofNat (sn n k)) 256 := bp_in (by omega) hlt
    have ek : sn n 0 + 16 * (k / 4) + k % 4 = sn n k := by unfold sn; omega
    by_cases hf : c.1 6 3 = 0
    · have hb : m.1 0 12 = 0 := by rw [← h.2.1]; exact hf
      obtain ⟨x, c1, m1, q1, q2, q3, q4, y, q5, q6⟩ := z_bits N hN (z := 8) (by omega) h
      have q1' : bc_BR_bits N 8 c = some (x, c1) := q1
      have q2' : bm_M_bits N 8 m = some (x, m1) := q2
      obtain ⟨c2, m2, p1, p2', p3, p3b, p4, p5, p6⟩ := ih (k + 1) u w (bp_sI c1 34 (sn n k) x) (bp_sI m1 5 (sn n k) x) (by omega) (by omega) (by omega) (q3.1.of (fun y => bp_s1o _ _ _ _ (by decide) y) (fun y => bp_s1o _ _ _ _ (by decide) y) (bp_s1o _ _ _ _ (by decide) _) (bp_s1o _ _ _ _ (by decide) _) (bp_s1o _ _ _ _ (by decide) _) (fun y => bp_s1o _ _ _ _ (by decide) y))
      refine ⟨c2, m2, ?_, ?_, p3, fun hn => absurd hf hn, ((q3.2.1.up (by decide)).s _ (by decide)).tr p4, ((q3.2.2.1.up (by decide)).s _ (by decide) (by decide)).tr p5, fun h0 => ?_⟩
      · rw [bc_PD_readIntra_L15, if_neg (ge16 (by omega))]
        simp only [c_sn N hn (show k < 16 by omega), bp_cI, q1', bp_git i1, bp_tn (show sn n k < 2147483648 by omega), bp_nM, bp_nI, bp_inc]
        exact p1
      · rw [bm_M_intraBlock_L201, if_neg (ge16 (by omega)), if_neg (fun hn => hn hb)]
        simp only [b4 (show k < 100000 by omega), r4 (show k < 100000 by omega), x16, bp_add, ek, bp_nI, not_true, if_false, q2', bp_cI, bp_git i1, bp_tn (show sn n k < 2147483648 by omega), bp_nM, bm_M_intraBlock_L329, bp_inc]
        exact p2'
      · obtain ⟨g1, g2, g3⟩ := p6 h0
        refine ⟨fun i hi => ?_, fun i hi => ?_, fun i h1 h2 => ?_⟩
        · obtain ⟨a, b⟩ := g1 i hi
          have ne : i ≠ sn n k := fun e => hi (by rw [e]; exact bo_sn hn (by omega))
          rw [a, b, bp_s1k _ _ _ _ ne, bp_s1k _ _ _ _ ne, q3.2.1.2 34 (by decide), q3.2.2.1.1 5 (by decide) (by simp)]
          exact ⟨rfl, rfl⟩
        · obtain ⟨a, b⟩ := g2 i (by omega)
          have ne : sn n i ≠ sn n k := fun e => by have := sn_in hn (by omega) (by omega) e; omega
          rw [a, b, bp_s1k _ _ _ _ ne, bp_s1k _ _ _ _ ne, q3.2.1.2 34 (by decide), q3.2.2.1.1 5 (by decide) (by simp)]
          exact ⟨rfl, rfl⟩
        · by_cases he : i = k
          · subst he
            obtain ⟨a, b⟩ := g2 i (by omega)
            rw [a, b, bp_s1e, bp_s1e]
            exact ⟨rfl, y, by omega, by omega, q6⟩
          · exact g3 i (by omega) h2
    · have hb : ¬ m.1 0 12 = 0 := by rw [← h.2.1]; exact hf
      obtain ⟨c1, q1, q2⟩ := c_rawF N hN hn (j + 1) k (u + 1) c hk hu hf
      refine ⟨c1, m, q1, ?_, h.of (fun y => q2.2 6 (by decide) y) (fun y => q2.2 16 (by decide) y) rfl rfl rfl (fun _ => rfl), fun _ => q2.2 6 (by decide) 3, q2.up (by decide), mF.rf _ _, fun h0 => ?_⟩
      · rw [bm_M_intraBlock_L201, if_neg (ge16 (by omega)), if_pos hb]
        rfl
      · rw [q2.2 6 (by decide)] at h0; exact absurd h0 hf

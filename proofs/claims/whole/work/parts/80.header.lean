/-- a picture that is a reference -/
def ir (key rank : Int32) : Int32 := if ¬ key = 0 then 1 else if rank ≤ 0 then 0 else 1
theorem ir_b (key rank : Int32) : jb (ir key rank) := by
  unfold ir
  split
  · exact Or.inr rfl
  · split
    · exact Or.inl rfl
    · exact Or.inr rfl
theorem z_hdr (N : Nat) (hN : 4000 ≤ N) {d K : Nat} (hK : K ≤ 4) {key rank base : Int32} (hkey : key = 0 ∨ key = 1) {c m : bp_M} (h : rD d c m) (hc4 : c.1 3 4 = Int32.ofNat K) (hp : ∀ i, i < 4 → isPI (c.2 39 i)) (hbase : base = if key = 0 then m.1 0 18 else if m.1 0 13 = 0 then m.1 0 18 else m.1 0 15) : ∃ c1 m1 ord, bc_PD_readHeader N key rank base c = some c1 ∧ bm_M_picture_L46 N key rank (Int32.ofNat K) m = bm_M_picture_L208 N key rank ord m1 ∧ rD d c1 m1 ∧ (¬ c.1 6 3 = 0 → c1.1 6 3 = c.1 6 3) ∧ hF c m c1 m1 ∧ (∀ i, i < 4 → isPI (c1.2 39 i)) ∧ (c1.1 6 3 = 0 → c1.1 10 1 = ord ∧ jy ord ∧ c1.1 10 2 = ir key rank ∧ c1.1 10 3 = 1 ∧ c1.1 3 10 = m1.1 0 19 ∧ jr 0 11 (m1.1 0 19) ∧ c1.1 3 5 = m1.1 0 22 ∧ (c1.1 3 5 = -1 ∨ ∃ r : Nat, r < K ∧ c1.1 3 5 = Int32.ofNat r) ∧ (key = 0 → ∃ L F : Nat, L < K ∧ c1.1 3 9 = Int32.ofNat L ∧ m1.1 0 20 = Int32.ofNat L ∧ F < K ∧ ((m1.1 0 21 = -1 ∧ F = 0) ∨ m1.1 0 21 = Int32.ofNat F) ∧ ∀ r, r < 4 → c1.2 39 r = c.2 39 (if r = 0 then F else if r ≤ F then r - 1 else r))) := by
  -- the order number
  obtain ⟨ord, c1, m1, a1, a2, a3, a4, a5, wo, a6, a7⟩ := z_num N hN 255 255 5 (fun _ _ => Iff.rfl) bp_n50 h
  have ib := ir_b key rank
  obtain ⟨c4, hc4'⟩ : ∃ c4, c4 = bp_sI (bp_sI (bp_sI c1 10 1 ord) 10 2 (ir key rank)) 10 3 1 := ⟨_, rfl⟩
  have C4 : ∀ x, x ≠ 10 → ∀ y, c4.1 x y = c1.1 x y := fun x hx y => by rw [hc4', bp_s1o _ _ _ _ hx, bp_s1o _ _ _ _ hx, bp_s1o _ _ _ _ hx]
  have C4a : c4.1 10 1 = ord := by rw [hc4']; simp [bp_s1]
  have C4b : c4.1 10 2 = ir key rank := by rw [hc4']; simp [bp_s1]
  have C4c : c4.1 10 3 = 1 := by rw [hc4']; simp [bp_s1]
  have c42 : c4.2 = c1.2 := by rw [hc4']; rfl
  have D4 : rD d c4 m1 := a3.1.of (fun y => C4 6 (by decide) y) (fun y => C4 16 (by decide) y) rfl rfl rfl (fun _ => rfl)
  have E35 : bc_PD_readHeader N key rank base c = bc_PD_readHeader_L35 N key rank base (ir key rank) (bp_sI c1 10 1 ord) := by
    simp only [bc_PD_readHeader, a1, bp_cI, bp_nM, bc_PD_readHeader_L30]
    unfold ir
    split
    · rfl
    · split <;> rfl
  -- the quality
  obtain ⟨u, c5, m2, b1, b2, b3, -, -, -⟩ := z_sgn N hN D4
  obtain ⟨q, hq⟩ : ∃ q, q = base + sg u := ⟨_, rfl⟩
  have D6 : rD d (bp_sI c5 3 10 q) (bp_sI m2 0 19 q) := b3.1.of (fun y => bp_s1o _ _ _ _ (by decide) y) (fun y => bp_s1o _ _ _ _ (by decide) y) (bp_s1k _ _ _ _ (by decide)) (bp_s1k _ _ _ _ (by decide)) (bp_s1k _ _ _ _ (by decide)) (fun y => bp_s1o _ _ _ _ (by decide) y)
  have e12 : (bp_sI m2 0 19 q).1 0 12 = m2.1 0 12 := bp_s1k _ _ _ _ (by decide)
  have E46 : bm_M_picture_L46 N key rank (Int32.ofNat K) m = bm_M_picture_L85 N key rank (Int32.ofNat K) ord (sg u) base m2 := by
    have g13 : m2.1 0 13 = m.1 0 13 := by rw [b3.2.2.1.2 13 (by decide) (by decide), a3.2.2.1.2 13 (by decide) (by decide)]
    have g15 : m2.1 0 15 = m.1 0 15 := by rw [b3.2.2.1.2 15 (by decide) (by decide), a3.2.2.1.2 15 (by decide) (by decide)]
    have g18 : m2.1 0 18 = m.1 0 18 := by rw [b3.2.2.1.2 18 (by decide) (by decide), a3.2.2.1.2 18 (by decide) (by decide)]
    simp only [bm_M_picture_L46, a2, bp_cI, b2, bm_M_picture_L81, g13, g15, g18]
    rw [hbase]
    by_cases hk : key = 0
    · rw [if_pos hk, if_pos hk]
    · rw [if_neg hk, if_neg hk]
      by_cases hk2 : m.1 0 13 = 0
      · rw [if_pos hk2, if_pos hk2]
      · rw [if_neg hk2, if_neg hk2]
  have EC35 : bc_PD_readHeader_L35 N key rank base (ir key rank) (bp_sI c1 10 1 ord) = if q < 0 then bc_PD_readHeader_L82 N key rank base (bp_sI c5 3 10 q) else if q ≤ 11 then bc_PD_readHeader_L90 N key rank base (bp_sI c5 3 10 q) else bc_PD_readHeader_L82 N key rank base (bp_sI c5 3 10 q) := by
    unfold bc_PD_readHeader_L35
    rw [bp_gt (show ir key rank = 0 ∨ ir key rank = 1 from ib)]
    simp only [bp_nM]
    rw [bp_gt (show (1 : Int32) = 0 ∨ True from Or.inr trivial), ← hc4', b1]
    simp only [bp_cI, c_sgn, ← hq, bp_s1e]
  -- its range
  have hRg : ∃ c7 m4, bc_PD_readHeader_L35 N key rank base (ir key rank) (bp_sI c1 10 1 ord) = bc_PD_readHeader_L90 N key rank base c7 ∧ bm_M_picture_L85 N key rank (Int32.ofNat K) ord (sg u) base m2 = bm_M_picture_L116 N key rank (Int32.ofNat K) ord m4 ∧ rT d (bp_sI c5 3 10 q) (bp_sI m2 0 19 q) c7 m4 ∧ (c7.1 6 3 = 0 → jr 0 11 q) := by
    by_cases hr : ¬ q < 0 ∧ q ≤ 11
    · obtain ⟨r1, r2⟩ := hr
      have r3 : ¬ 11 < q := fun e => by rw [Int32.lt_iff_toInt_lt] at e; rw [Int32.le_iff_toInt_le] at r2; omega
      refine ⟨_, _, by rw [EC35, if_neg r1, if_pos r2], ?_, rT.rf D6, fun _ => ?_⟩
      · simp only [bm_M_picture_L85, ← hq, bp_nM, m_within, bp_cI, bp_s1e, if_neg r1, if_neg r3, bp_10, not_false_iff, if_true]
        split <;> rfl
      · obtain ⟨n, hn, e⟩ := bp_ofv r1
        rw [e] at r2
        exact ⟨n, by omega, (bp_le (b := 11) hn (by omega)).mp r2, e⟩
    · have hw : (if q < 0 then (0 : Int32) else if 11 < q then 0 else 1) = 0 := by
        by_cases r1 : q < 0
        · rw [if_pos r1]
        · rw [if_neg r1, if_pos (bp_nle (fun r2 => hr ⟨r1, r2⟩))]
      refine ⟨_, _, ?_, ?_, rT.f D6 bp_n50, fun hn => ?_⟩
      · rw [EC35]
        have e82 : bc_PD_readHeader_L82 N key rank base (bp_sI c5 3 10 q) = bc_PD_readHeader_L90 N key rank base (bp_sI (bp_sI c5 3 10 q) 6 3 (if (bp_sI c5 3 10 q).1 6 3 = 0 then 5 else (bp_sI c5 3 10 q).1 6 3)) := by
          simp only [bc_PD_readHeader_L82, c_failM, bp_cV]
        rw [e82]
        by_cases r1 : q < 0
        · rw [if_pos r1]
        · rw [if_neg r1, if_neg (fun r2 => hr ⟨r1, r2⟩)]
      · simp only [bm_M_picture_L85, ← hq, bp_nM, m_within, bp_cI, bp_s1e, hw, not_true, if_false]
        by_cases hz : (bp_sI m2 0 19 q).1 0 12 = 0
        · rw [if_neg (fun hn => hn hz), if_pos hz]
        · rw [if_pos hz, if_neg hz, bp_sid]
      · rw [bp_s1e] at hn
        split at hn
        · exact absurd hn bp_n50
        · contradiction
  obtain ⟨c7, m4, g1, g2, g3, g4⟩ := hRg
  have C7 : ∀ x, x ≠ 3 → x ≠ 6 → x ≠ 10 → ∀ y, c7.1 x y = c.1 x y := fun x a b e y => by rw [g3.2.1.2 x (by simpa using b), bp_s1o _ _ _ _ a, b3.2.1.2 x (by simpa using b), C4 x e, a3.2.1.2 x (by simpa using b)]
  have C710 : ∀ y, c7.1 10 y = c4.1 10 y := fun y => by rw [g3.2.1.2 10 (by decide), bp_s1o _ _ _ _ (by decide), b3.2.1.2 10 (by decide)]
  have C73 : ∀ y, y ≠ 10 → c7.1 3 y = c.1 3 y := fun y hy => by rw [g3.2.1.2 3 (by decide), bp_s1k _ _ _ _ hy, b3.2.1.2 3 (by decide), C4 3 (by decide), a3.2.1.2 3 (by decide)]
  have C7q : c7.1 3 10 = q := by rw [g3.2.1.2 3 (by decide), bp_s1e]
  have c72 : c7.2 = c.2 := by rw [g3.2.1.1, bp_s2, b3.2.1.1, c42, a3.2.1.1]
  have M4 : ∀ x, x ≠ 0 → ∀ y, m4.1 x y = m.1 x y := fun x x0 y => by rw [g3.2.2.1.1 x x0 (by simp), bp_s1o _ _ _ _ x0, b3.2.2.1.1 x x0 (by simp), a3.2.2.1.1 x x0 (by simp)]
  have M40 : ∀ y, y ≠ 11 → y ≠ 12 → y ≠ 19 → m4.1 0 y = m.1 0 y := fun y a b e => by rw [g3.2.2.1.2 y a b, bp_s1k _ _ _ _ e, b3.2.2.1.2 y a b, a3.2.2.1.2 y a b]
  have M4q : m4.1 0 19 = q := by rw [g3.2.2.1.2 19 (by decide) (by decide), bp_s1e]
  have keep : ¬ c.1 6 3 = 0 → c7.1 6 3 = c.1 6 3 := fun hf => by
    have x1 := a3.2.2.2 hf
    have x2' := b3.2.2.2 (by rw [C4 6 (by decide), x1]; exact hf)
    rw [C4 6 (by decide), x1] at x2'
    have x3 := g3.2.2.2 (by rw [bp_s1o _ _ _ _ (by decide), x2']; exact hf)
    rw [x3, bp_s1o _ _ _ _ (by decide), x2']
  have zf : c7.1 6 3 = 0 → c1.1 6 3 = 0 := fun hf => by
    have y1 := g3.z hf
    rw [bp_s1o _ _ _ _ (by decide)] at y1
    have y2 := b3.z y1
    rw [C4 6 (by decide)] at y2
    exact y2
  have oy : c7.1 6 3 = 0 → jy ord := fun hf => by
    have := a5 (zf hf)
    rw [a7] at this
    exact ⟨wo, by omega, (bp_le (b := 255) (by omega) (by omega)).mp this, a7⟩
  -- nothing released yet
  obtain ⟨m5, hm5⟩ : ∃ m5, m5 = bp_sI (bp_sI (bp_sI m4 0 20 0) 0 21 (-1)) 0 22 (-1) := ⟨_, rfl⟩
  have M5 : ∀ x, x ≠ 0 → ∀ y, m5.1 x y = m4.1 x y := fun x x0 y => by rw [hm5, bp_s1o _ _ _ _ x0, bp_s1o _ _ _ _ x0, bp_s1o _ _ _ _ x0]
  have M50 : ∀ y, ¬ (20 ≤ y ∧ y ≤ 22) → m5.1 0 y = m4.1 0 y := fun y hy => by rw [hm5, bp_s1k _ _ _ _ (by omega), bp_s1k _ _ _ _ (by omega), bp_s1k _ _ _ _ (by omega)]
  have M521 : m5.1 0 21 = -1 := by rw [hm5]; simp [bp_s1]
  have M522 : m5.1 0 22 = -1 := by rw [hm5]; simp [bp_s1]
  have D8 : rD d (bp_sI c7 3 5 (-1)) m5 := g3.1.of (fun y => bp_s1o _ _ _ _ (by decide) y) (fun y => bp_s1o _ _ _ _ (by decide) y) (M50 10 (by omega)) (M50 11 (by omega)) (M50 12 (by omega)) (fun y => M5 4 (by decide) y)
  rw [E35, g1, E46, g2]
  rcases hkey with hk | hk
  · subst hk
    obtain ⟨c9, m9, k1, k2, k3, k4, k5, k6, k7, k8, k9, k10, k11⟩ := z_use N hN hK rank ord D8 (by rw [bp_s1k _ _ _ _ (by decide), C73 4 (by decide)]; exact hc4) (by rw [bp_s2, c72]; exact hp) (bp_s1e _ _ _ _) M521 M522
    have e63 : (bp_sI c7 3 5 (-1)).1 6 3 = c7.1 6 3 := bp_s1o _ _ _ _ (by decide) _
    refine ⟨c9, m9, ord, ?_, ?_, k3, fun hf => ?_, ⟨fun x hx y => ?_, fun x a b e y => ?_, fun x x0 y => ?_, fun y a b e => ?_⟩, k6, fun hf => ?_⟩
    · simp only [bc_PD_readHeader_L90, bp_nM, not_true, if_false, k1, bp_cV, bc_PD_readHeader_L104]
    · simp only [bm_M_picture_L116, bp_nM, not_true, if_false]
      rw [← hm5]
      exact k2
    · rw [k4 (by rw [e63, keep hf]; exact hf), e63, keep hf]
    · rw [k5 x hx, bp_s2, c72]
    · rw [k7 x a b, bp_s1o _ _ _ _ a, C7 x a b e]
    · rw [k9 x x0, M5 x x0, M4 x x0]
    · rw [k10 y a b (by omega), M50 y (by omega), M40 y a b (by omega)]
    · have hf7 : c7.1 6 3 = 0 := by
        by_cases hz : c7.1 6 3 = 0
        · exact hz
        · rw [k4 (by rw [e63]; exact hz), e63] at hf; exact absurd hf hz
      obtain ⟨l1, l2, l3⟩ := k11 hf
      have e10 : ∀ y, c9.1 10 y = c4.1 10 y := fun y => by rw [k7 10 (by decide) (by decide), bp_s1o _ _ _ _ (by decide), C710]
      have e19 : m9.1 0 19 = q := by rw [k10 19 (by decide) (by decide) (by omega), M50 19 (by omega), M4q]
      refine ⟨by rw [e10, C4a], oy hf7, by rw [e10, C4b], by rw [e10, C4c], ?_, ?_, l1, l2, fun _ => ?_⟩
      · rw [k8 10 (by decide) (by decide), bp_s1k _ _ _ _ (by decide), C7q, e19]
      · rw [e19]; exact g4 hf7
      · obtain ⟨L, F, n1, n2, n3, n4, n5, n6⟩ := l3
        exact ⟨L, F, n1, n2, n3, n4, n5, fun r hr => by rw [n6 r hr, bp_s2, c72]⟩
  · subst hk
    refine ⟨bp_sI c7 3 5 (-1), m5, ord, ?_, ?_, D8, fun hf => by rw [bp_s1o _ _ _ _ (by decide)]; exact keep hf, ⟨fun x _ y => by rw [bp_s2, c72], fun x a b e y => by rw [bp_s1o _ _ _ _ a, C7 x a b e], fun x x0 y => by rw [M5 x x0, M4 x x0], fun y a b e => by rw [M50 y (by omega), M40 y a b (by omega)]⟩, by rw [bp_s2, c72]; exact hp, fun hf => ?_⟩
    · simp only [bc_PD_readHeader_L90, bp_nM, bp_10, not_false_iff, if_true, bc_PD_readHeader_L104]
    · simp only [bm_M_picture_L116, bp_nM, bp_10, not_false_iff, if_true]
      rw [← hm5]
      simp only [bm_M_picture_L174, bp_10, not_false_iff, if_true]
    · rw [bp_s1o _ _ _ _ (by decide)] at hf
      have e10 : ∀ y, (bp_sI c7 3 5 (-1)).1 10 y = c4.1 10 y := fun y => by rw [bp_s1o _ _ _ _ (by decide), C710]
      have e19 : m5.1 0 19 = q := by rw [M50 19 (by omega), M4q]
      exact ⟨by rw [e10, C4a], oy hf, by rw [e10, C4b], by rw [e10, C4c], by rw [bp_s1k _ _ _ _ (by decide), C7q, e19], by rw [e19]; exact g4 hf, by rw [bp_s1e, M522], Or.inl (bp_s1e _ _ _ _), fun e => absurd e bp_10⟩

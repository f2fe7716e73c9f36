/-! The filter over the edges of blocks. -/
def ab (a b : Int32) : Int32 := if 0 ≤ (a - b : Int32) then (a - b : Int32) else 0 - (a - b : Int32)
theorem ab_d (a b : Int32) : (if 0 ≤ (a - b : Int32) then (a - b : Int32) else 0 - (a - b : Int32)) = ab a b := rfl
theorem ab_le {a b : Int32} (h : -1000 ≤ a.toInt ∧ a.toInt ≤ 1000) (g : -1000 ≤ b.toInt ∧ b.toInt ≤ 1000) : (0 ≤ (a - b : Int32) ↔ b ≤ a) := by
  rw [Int32.le_iff_toInt_le, Int32.le_iff_toInt_le, Int32.toInt_sub, show (0 : Int32).toInt = 0 from rfl, Int.bmod_eq_of_le (by omega) (by omega)]
  omega
theorem m_distance (N : Nat) {a b : Int32} (h : -1000 ≤ a.toInt ∧ a.toInt ≤ 1000) (g : -1000 ≤ b.toInt ∧ b.toInt ≤ 1000) (m : bp_M) : bm_M_distance N a b m = some (ab a b, m) := by
  unfold bm_M_distance bm_M_distance_L14 ab
  by_cases hz : b ≤ a
  · rw [if_pos hz, if_pos ((ab_le h g).mpr hz)]
  · rw [if_neg hz, if_neg (fun e => hz ((ab_le h g).mp e))]
    congr 2
    grind
theorem jy_i {v : Int32} (h : jy v) : -1000 ≤ v.toInt ∧ v.toInt ≤ 1000 := by
  obtain ⟨n, -, hn, rfl⟩ := h
  rw [bp_toInt (by omega)]
  omega
theorem jv_i2 {v : Int32} (h : jv v) : -1000 ≤ v.toInt ∧ v.toInt ≤ 1000 := by
  have := jv_i h
  omega
/-- the change, within its bounds -/
def cg (t d : Int32) : Int32 := if (-t : Int32) < (if d < t then d else t) then (if d < t then d else t) else (-t : Int32)
theorem cg_m {T : Nat} (hT : T ≤ 100) (d : Int32) : (if (-(Int32.ofNat T) : Int32) ≤ d then (if d ≤ Int32.ofNat T then d else Int32.ofNat T) else (-(Int32.ofNat T) : Int32)) = cg (Int32.ofNat T) d := by
  have eT : (Int32.ofNat T).toInt = T := bp_toInt (by omega)
  have en : (-(Int32.ofNat T) : Int32).toInt = -(T : Int) := by
    rw [Int32.toInt_neg, eT, Int.bmod_eq_of_le (by omega) (by omega)]
  have e2 : (cg (Int32.ofNat T) d).toInt = max (-(T : Int)) (min d.toInt T) := by
    unfold cg
    rw [ma_i, mi_i, en, eT]
  apply Int32.toInt_inj.mp
  rw [e2]
  by_cases h1 : (-(Int32.ofNat T) : Int32) ≤ d
  · rw [if_pos h1]
    rw [Int32.le_iff_toInt_le, en] at h1
    by_cases h2 : d ≤ Int32.ofNat T
    · rw [if_pos h2]
      rw [Int32.le_iff_toInt_le, eT] at h2
      omega
    · rw [if_neg h2, eT]
      rw [Int32.le_iff_toInt_le, eT] at h2
      omega
  · rw [if_neg h1, en]
    rw [Int32.le_iff_toInt_le, en] at h1
    omega
/-- all samples of the picture the same, and bytes -/
def zE (c m : bp_M) : Prop := ∀ i, i < 256 → c.1 34 i = m.1 5 i ∧ jy (m.1 5 i)
/-- what the filter leaves of the reference -/
def eF (m m1 : bp_M) : Prop := (∀ x, x ≠ 0 → x ≠ 5 → ∀ y, m1.1 x y = m.1 x y) ∧ ∀ y, y ≠ 30 → m1.1 0 y = m.1 0 y
theorem eF.rf (m : bp_M) : eF m m := ⟨fun _ _ _ _ => rfl, fun _ _ => rfl⟩
theorem eF.tr {a b c : bp_M} (h : eF a b) (g : eF b c) : eF a c := ⟨fun x x0 hx y => (g.1 x x0 hx y).trans (h.1 x x0 hx y), fun y a => (g.2 y a).trans (h.2 y a)⟩
theorem z_line (N : Nat) {A s t Q : Nat} (hs : 1 ≤ s) (h1 : 2 * s ≤ A) (h2 : A + s < 256) (ht : t ≤ 2) (hQ : Q ≤ 11) {c m : bp_M} (hE : zE c m) (hq : m.1 0 19 = Int32.ofNat Q) : ∃ v c1 m1, bc_EF_smoothLine N 34 (Int32.ofNat A) (Int32.ofNat s) (Int32.ofNat t) (Int32.ofNat Q) c = some (v, c1) ∧ bm_M_line N (Int32.ofNat A) (Int32.ofNat s) (Int32.ofNat t + Int32.ofNat Q / 3) m = some m1 ∧ (v = 0 ∨ v = 1) ∧ m1.1 0 30 = m.1 0 30 + v ∧ cF [34] c c1 ∧ eF m m1 ∧ zE c1 m1 := by
  have hI : bc_isI 34 = true := by decide
  have e1 : Int32.ofNat A - Int32.ofNat (2 * s) = Int32.ofNat (A - 2 * s) := bp_sub (by omega)
  have e2 : Int32.ofNat A - Int32.ofNat s = Int32.ofNat (A - s) := bp_sub (by omega)
  have e3 : Int32.ofNat A + Int32.ofNat s = Int32.ofNat (A + s) := bp_add A s
  have gi : ∀ k, k < 256 → vp_in (Int32.ofNat k) (bc_len 34) := fun k hk => bp_in (by omega) hk
  have gj : ∀ k, k < 256 → vp_in (Int32.ofNat k) 256 := fun k hk => bp_in (by omega) hk
  have tk : ∀ k, k < 256 → (Int32.ofNat k).toNatClampNeg = k := fun k hk => bp_tn (by omega)
  obtain ⟨a1, y1⟩ := hE (A - 2 * s) (by omega)
  obtain ⟨a2, y2⟩ := hE (A - s) (by omega)
  obtain ⟨a3, y3⟩ := hE A (by omega)
  obtain ⟨a4, y4⟩ := hE (A + s) (by omega)
  have d1 := fun m' => m_distance N (jy_i y2) (jy_i y3) m'
  have d2 := fun m' => m_distance N (jy_i y1) (jy_i y2) m'
  have d3 := fun m' => m_distance N (jy_i y4) (jy_i y3) m'
  -- what both do where nothing is flat
  have EC0 : bc_EF_smoothLine_L79 N 34 (Int32.ofNat A) (Int32.ofNat s) (Int32.ofNat t) (Int32.ofNat Q) (m.1 5 (A - 2 * s)) (m.1 5 (A - s)) (m.1 5 A) (m.1 5 (A + s)) c = some (0, c) := by
    simp only [bc_EF_smoothLine_L79, bc_EF_smoothLine_L80, not_true, if_false, bp_g, true_or, if_true]
  have stop : ∃ v c1 m1, some ((0 : Int32), c) = some (v, c1) ∧ some m = some m1 ∧ (v = 0 ∨ v = 1) ∧ m1.1 0 30 = m.1 0 30 + v ∧ cF [34] c c1 ∧ eF m m1 ∧ zE c1 m1 := ⟨0, c, m, rfl, rfl, Or.inl rfl, (Int32.add_zero _).symm, cF.rf _ _, eF.rf _, hE⟩
  have e3t : Int32.ofNat Q / 3 = Int32.ofNat (Q / 3) := bp_div (b := 3) (by omega) (by omega)
  have EC : bc_EF_smoothLine N 34 (Int32.ofNat A) (Int32.ofNat s) (Int32.ofNat t) (Int32.ofNat Q) c = if (4 + (3 * Int32.ofNat Q : Int32) : Int32) ≤ ab (m.1 5 (A - s)) (m.1 5 A) then some (0, c) else if (2 + Int32.ofNat Q : Int32) ≤ ab (m.1 5 (A - 2 * s)) (m.1 5 (A - s)) then some (0, c) else if (2 + Int32.ofNat Q : Int32) ≤ ab (m.1 5 (A + s)) (m.1 5 A) then some (0, c) else bc_EF_smoothLine_L80 N 34 (Int32.ofNat A) (Int32.ofNat s) (Int32.ofNat t) (Int32.ofNat Q) (m.1 5 (A - 2 * s)) (m.1 5 (A - s)) (m.1 5 A) (m.1 5 (A + s)) 1 c := by
    simp only [bc_EF_smoothLine, bp_gt hI, x2, e1, e2, e3, bp_git (gi _ (show A - 2 * s < 256 by omega)), bp_git (gi _ (show A - s < 256 by omega)), bp_git (gi _ (show A < 256 by omega)), bp_git (gi _ (show A + s < 256 by omega)), tk _ (show A - 2 * s < 256 by omega), tk _ (show A - s < 256 by omega), tk _ (show A < 256 by omega), tk _ (show A + s < 256 by omega), bp_nI, a1, a2, a3, a4, EC0, ab]
    rfl
  have EM : bm_M_line N (Int32.ofNat A) (Int32.ofNat s) (Int32.ofNat t + Int32.ofNat Q / 3) m = if (4 + (3 * Int32.ofNat Q : Int32) : Int32) ≤ ab (m.1 5 (A - s)) (m.1 5 A) then some m else if (2 + Int32.ofNat Q : Int32) ≤ ab (m.1 5 (A - 2 * s)) (m.1 5 (A - s)) then some m else if ab (m.1 5 (A + s)) (m.1 5 A) < (2 + Int32.ofNat Q : Int32) then bm_M_line_L134 N (Int32.ofNat A) (Int32.ofNat s) (Int32.ofNat (t + Q / 3)) (m.1 5 (A - s)) (m.1 5 A) (cg (Int32.ofNat (t + Q / 3)) (((((4 * (m.1 5 A - m.1 5 (A - s) : Int32) : Int32) + m.1 5 (A - 2 * s) : Int32) - m.1 5 (A + s) : Int32) + 4 : Int32) >>> (3 &&& 31 : Int32) : Int32)) m else some m := by
    simp only [bm_M_line, x2, e1, e2, e3, bp_git (gj _ (show A - 2 * s < 256 by omega)), bp_git (gj _ (show A - s < 256 by omega)), bp_git (gj _ (show A < 256 by omega)), bp_git (gj _ (show A + s < 256 by omega)), tk _ (show A - 2 * s < 256 by omega), tk _ (show A - s < 256 by omega), tk _ (show A < 256 by omega), tk _ (show A + s < 256 by omega), bp_nI, d1, d2, d3, bp_cI, hq, bm_M_line_L90, e3t, bp_add]
    rw [← cg_m (by omega)]
    by_cases g1 : (-(Int32.ofNat (t + Q / 3)) : Int32) ≤ (((((4 * (m.1 5 A - m.1 5 (A - s) : Int32) : Int32) + m.1 5 (A - 2 * s) : Int32) - m.1 5 (A + s) : Int32) + 4 : Int32) >>> (3 &&& 31 : Int32) : Int32)
    · by_cases g2 : (((((4 * (m.1 5 A - m.1 5 (A - s) : Int32) : Int32) + m.1 5 (A - 2 * s) : Int32) - m.1 5 (A + s) : Int32) + 4 : Int32) >>> (3 &&& 31 : Int32) : Int32) ≤ Int32.ofNat (t + Q / 3)
      · simp only [if_pos g1, if_pos g2]
      · simp only [if_pos g1, if_neg g2]
    · simp only [if_neg g1]
  rw [EC, EM]
  by_cases k1 : (4 + (3 * Int32.ofNat Q : Int32) : Int32) ≤ ab (m.1 5 (A - s)) (m.1 5 A)
  · rw [if_pos k1, if_pos k1]; exact stop
  · rw [if_neg k1, if_neg k1]
    by_cases k2 : (2 + Int32.ofNat Q : Int32) ≤ ab (m.1 5 (A - 2 * s)) (m.1 5 (A - s))
    · rw [if_pos k2, if_pos k2]; exact stop
    · rw [if_neg k2, if_neg k2]
      by_cases k3 : (2 + Int32.ofNat Q : Int32) ≤ ab (m.1 5 (A + s)) (m.1 5 A)
      · have k3' : ¬ ab (m.1 5 (A + s)) (m.1 5 A) < (2 + Int32.ofNat Q : Int32) := fun e => by
          rw [Int32.lt_iff_toInt_lt] at e; rw [Int32.le_iff_toInt_le] at k3; omega
        rw [if_pos k3, if_neg k3']; exact stop
      · rw [if_neg k3, if_pos (bp_nle k3)]
        obtain ⟨h, hh⟩ : ∃ h, h = cg (Int32.ofNat (t + Q / 3)) (((((4 * (m.1 5 A - m.1 5 (A - s) : Int32) : Int32) + m.1 5 (A - 2 * s) : Int32) - m.1 5 (A + s) : Int32) + 4 : Int32) >>> (3 &&& 31 : Int32) : Int32) := ⟨_, rfl⟩
        obtain ⟨u, hu⟩ : ∃ u, u = li (m.1 5 (A - s) + h) := ⟨_, rfl⟩
        obtain ⟨w, hw⟩ : ∃ w, w = li (m.1 5 A - h) := ⟨_, rfl⟩
        have ne : A - s ≠ A := by omega
        have E80 : bc_EF_smoothLine_L80 N 34 (Int32.ofNat A) (Int32.ofNat s) (Int32.ofNat t) (Int32.ofNat Q) (m.1 5 (A - 2 * s)) (m.1 5 (A - s)) (m.1 5 A) (m.1 5 (A + s)) 1 c = some (if ¬ u = m.1 5 (A - s) then 1 else if w = m.1 5 A then 0 else 1, bp_sI (bp_sI c 34 (A - s) u) 34 A w) := by
          simp only [bc_EF_smoothLine_L80, bp_10, not_false_iff, if_true, bp_nI, e3t, bp_add]
          rw [show (if (-(Int32.ofNat (t + Q / 3)) : Int32) < (if (((((4 * (m.1 5 A - m.1 5 (A - s) : Int32) : Int32) + m.1 5 (A - 2 * s) : Int32) - m.1 5 (A + s) : Int32) + 4 : Int32) >>> (3 &&& 31 : Int32) : Int32) < Int32.ofNat (t + Q / 3) then (((((4 * (m.1 5 A - m.1 5 (A - s) : Int32) : Int32) + m.1 5 (A - 2 * s) : Int32) - m.1 5 (A + s) : Int32) + 4 : Int32) >>> (3 &&& 31 : Int32) : Int32) else Int32.ofNat (t + Q / 3)) then (if (((((4 * (m.1 5 A - m.1 5 (A - s) : Int32) : Int32) + m.1 5 (A - 2 * s) : Int32) - m.1 5 (A + s) : Int32) + 4 : Int32) >>> (3 &&& 31 : Int32) : Int32) < Int32.ofNat (t + Q / 3) then (((((4 * (m.1 5 A - m.1 5 (A - s) : Int32) : Int32) + m.1 5 (A - 2 * s) : Int32) - m.1 5 (A + s) : Int32) + 4 : Int32) >>> (3 &&& 31 : Int32) : Int32) else Int32.ofNat (t + Q / 3)) else (-(Int32.ofNat (t + Q / 3)) : Int32)) = h from hh.symm]
          simp only [c_limit, bp_cI, ← hu, ← hw, hI, e2, bp_git (gi _ (show A - s < 256 by omega)), bp_git (gi _ (show A < 256 by omega)), tk _ (show A - s < 256 by omega), tk _ (show A < 256 by omega), bp_nM, bp_s1k _ _ _ _ ne, bp_s1e, bc_EF_smoothLine_L173, bc_EF_smoothLine_L178, bp_g, or_true, true_or, if_true]
          by_cases z1 : u = m.1 5 (A - s) <;> by_cases z2 : w = m.1 5 A <;> simp only [z1, z2, not_true, not_false_iff, if_true, if_false]
        obtain ⟨v, hv⟩ : ∃ v : Int32, v = if ¬ u = m.1 5 (A - s) then 1 else if w = m.1 5 A then 0 else 1 := ⟨_, rfl⟩
        have hv01 : v = 0 ∨ v = 1 := by
          rw [hv]
          split
          · exact Or.inr rfl
          · split
            · exact Or.inl rfl
            · exact Or.inr rfl
        have E134 : bm_M_line_L134 N (Int32.ofNat A) (Int32.ofNat s) (Int32.ofNat (t + Q / 3)) (m.1 5 (A - s)) (m.1 5 A) h m = some (bp_sI (bp_sI (bp_sI m 5 (A - s) u) 5 A w) 0 30 (m.1 0 30 + v)) := by
          have z30 : (bp_sI (bp_sI m 5 (A - s) u) 5 A w).1 0 30 = m.1 0 30 := by rw [bp_s1o _ _ _ _ (by decide), bp_s1o _ _ _ _ (by decide)]
          simp only [bm_M_line_L134, m_limit, bp_cI, ← hu, ← hw, e2, bp_git (gj _ (show A - s < 256 by omega)), bp_git (gj _ (show A < 256 by omega)), tk _ (show A - s < 256 by omega), tk _ (show A < 256 by omega), bp_nM, bp_s1k _ _ _ _ ne, bp_s1e, bm_M_line_L195, bm_M_line_L200, z30]
          rw [hv]
          by_cases z1 : u = m.1 5 (A - s) <;> by_cases z2 : w = m.1 5 A <;> simp only [z1, z2, not_true, not_false_iff, if_true, if_false]
        rw [← hh, E80, E134, ← hv]
        refine ⟨v, _, _, rfl, rfl, hv01, bp_s1e _ _ _ _, ((cF.rf [34] c).s _ (by decide)).s _ (by decide), ⟨fun x x0 hx y => ?_, fun y hy => ?_⟩, fun i hi => ?_⟩
        · rw [bp_s1o _ _ _ _ x0, bp_s1o _ _ _ _ hx, bp_s1o _ _ _ _ hx]
        · rw [bp_s1k _ _ _ _ hy, bp_s1o _ _ _ _ (by decide), bp_s1o _ _ _ _ (by decide)]
        · rw [bp_s1o _ _ _ _ (show (5 : Nat) ≠ 0 by decide)]
          by_cases i1 : i = A
          · subst i1
            rw [bp_s1e, bp_s1e]
            exact ⟨rfl, by rw [hw]; exact li_y _⟩
          · rw [bp_s1k _ _ _ _ i1, bp_s1k _ _ _ _ i1]
            by_cases i2 : i = A - s
            · subst i2
              rw [bp_s1e, bp_s1e]
              exact ⟨rfl, by rw [hu]; exact li_y _⟩
            · rw [bp_s1k _ _ _ _ i2, bp_s1k _ _ _ _ i2]
              exact hE i hi
theorem z_str (N : Nat) {q p r : Nat} (hp : p < 16) (hr : r < 16) {c m : bp_M} (Jp : zJ q p c m) (Jr : zJ q r c m) : ∃ t : Nat, t ≤ 2 ∧ bc_RO_strength N q (Int32.ofNat p) (Int32.ofNat r) c = some (Int32.ofNat t, c) ∧ bm_M_strength N (Int32.ofNat p) (Int32.ofNat r) m = some (Int32.ofNat t, m) := by
  obtain ⟨P1, P2, -, P4, P5, P6, P7, P8⟩ := Jp
  obtain ⟨R1, R2, -, R4, R5, R6, R7, R8⟩ := Jr
  have tp' : (Int32.ofNat p).toNatClampNeg = p := bp_tn (by omega)
  have tr' : (Int32.ofNat r).toNatClampNeg = r := bp_tn (by omega)
  have d1 := fun m' => m_distance N (jv_i2 P6) (jv_i2 R6) m'
  have d2 := fun m' => m_distance N (jv_i2 P8) (jv_i2 R8) m'
  have s2 : ∃ t : Nat, t ≤ 2 ∧ some ((2 : Int32), c) = some (Int32.ofNat t, c) ∧ some ((2 : Int32), m) = some (Int32.ofNat t, m) := ⟨2, by omega, rfl, rfl⟩
  have s1 : ∃ t : Nat, t ≤ 2 ∧ some ((1 : Int32), c) = some (Int32.ofNat t, c) ∧ some ((1 : Int32), m) = some (Int32.ofNat t, m) := ⟨1, by omega, rfl, rfl⟩
  have s0 : ∃ t : Nat, t ≤ 2 ∧ some ((0 : Int32), c) = some (Int32.ofNat t, c) ∧ some ((0 : Int32), m) = some (Int32.ofNat t, m) := ⟨0, by omega, rfl, rfl⟩
  simp only [bc_RO_strength, bm_M_strength, bp_git (in_16 hp), bp_git (in_16 hr), tp', tr']
  rcases P1 with ⟨i1, i2⟩ | ⟨i1, i2⟩
  · simp only [i1, i2, if_true, bp_10, not_false_iff, bc_RO_strength_L18, bm_M_strength_L18]
    exact s2
  · rcases R1 with ⟨j1, j2⟩ | ⟨j1, j2⟩
    · simp only [i1, i2, j1, j2, if_true, bp_10, not_true, if_false, bc_RO_strength_L18, bm_M_strength_L18]
      exact s2
    · simp only [i1, i2, j1, j2, if_true, bp_10, not_true, not_false_iff, if_false, P2, R2, P4, R4, P5, R5, P7, R7, d1, d2, bp_cI, bm_M_strength_L58, bm_M_strength_L63, bm_M_strength_L101, bm_M_strength_L106, bc_RO_strength_L93, bc_RO_strength_L98, bc_RO_strength_L108, bp_git (in_16 hp), bp_git (in_16 hr), tp', tr', ab_d]
      by_cases c1 : m.1 7 p = 0
      · by_cases c2 : m.1 7 r = 0
        · by_cases c3 : m.1 10 p = m.1 10 r
          · by_cases c4 : 2 ≤ ab (m.1 8 p) (m.1 8 r)
            · simp only [c1, c2, c3, c4, not_true, if_true, if_false, bp_10]
              exact s1
            · by_cases c5 : ab (m.1 9 p) (m.1 9 r) < 2
              · simp only [c1, c2, c3, c4, c5, not_true, if_true, if_false]
                exact s0
              · simp only [c1, c2, c3, c4, c5, not_true, if_true, if_false, bp_10]
                exact s1
          · simp only [c1, c2, c3, not_true, not_false_iff, if_true, if_false]
            split
            · exact s1
            · split <;> exact s1
        · simp only [c1, c2, not_true, not_false_iff, if_true, if_false]
          split
          · exact s1
          · split <;> exact s1
      · simp only [c1, not_false_iff, if_true]
        split
        · exact s1
        · split <;> exact s1

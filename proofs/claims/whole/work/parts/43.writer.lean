def wF (c c1 : bp_M) : Prop := c1.2 = c.2 ∧ ∀ x, x ≠ 5 → x ≠ 23 → ∀ y, c1.1 x y = c.1 x y
def wG (m m1 : bp_M) : Prop := m1.2 = m.2 ∧ (∀ x, x ≠ 0 → x ≠ 20 → ∀ y, m1.1 x y = m.1 x y) ∧ ∀ y, y < 44 ∨ 47 < y → m1.1 0 y = m.1 0 y
theorem wF.rf (c : bp_M) : wF c c := ⟨rfl, fun _ _ _ _ => rfl⟩
theorem wG.rf (m : bp_M) : wG m m := ⟨rfl, fun _ _ _ _ => rfl, fun _ _ => rfl⟩
theorem wF.tr {a b c : bp_M} (h : wF a b) (g : wF b c) : wF a c := ⟨g.1.trans h.1, fun x h1 h2 y => (g.2 x h1 h2 y).trans (h.2 x h1 h2 y)⟩
theorem wG.tr {a b c : bp_M} (h : wG a b) (g : wG b c) : wG a c := ⟨g.1.trans h.1, fun x h1 h2 y => (g.2.1 x h1 h2 y).trans (h.2.1 x h1 h2 y), fun y hy => (g.2.2 y hy).trans (h.2.2 y hy)⟩
theorem wF.s (c : bp_M) {o : Nat} (k : Nat) (v : Int32) (ho : o = 5 ∨ o = 23) : wF c (bp_sI c o k v) := ⟨rfl, fun x h1 h2 y => bp_s1o c o k v (by omega) y⟩
theorem wG.s0 (m : bp_M) {k : Nat} (v : Int32) (hk : 44 ≤ k ∧ k ≤ 47) : wG m (bp_sI m 0 k v) := ⟨rfl, fun x h1 _ y => bp_s1o m 0 k v h1 y, fun y hy => bp_s1k m 0 k v (by omega)⟩
theorem wG.s20 (m : bp_M) (k : Nat) (v : Int32) : wG m (bp_sI m 20 k v) := ⟨rfl, fun x _ h2 y => bp_s1o m 20 k v h2 y, fun y _ => bp_s1o m 20 k v (by decide) y⟩
def wB (w z : Nat) (c m : bp_M) : Prop := z ≤ 2 ∧ c.1 5 2 = Int32.ofNat w ∧ m.1 0 44 = Int32.ofNat w ∧ c.1 5 3 = Int32.ofNat z ∧ m.1 0 45 = Int32.ofNat z ∧ ∀ i, i < w → c.1 23 i = m.1 20 i ∧ jy (c.1 23 i)
abbrev wc (c : bp_M) (w : Nat) (v z : Int32) : bp_M := bp_sI (bp_sI (bp_sI c 23 w v) 5 2 (Int32.ofNat (w + 1))) 5 3 z
abbrev wm (m : bp_M) (w : Nat) (v z : Int32) : bp_M := bp_sI (bp_sI (bp_sI m 20 w v) 0 44 (Int32.ofNat (w + 1))) 0 45 z
theorem wc_F (c : bp_M) (w : Nat) (v z : Int32) : wF c (wc c w v z) := ((wF.s c w v (by omega)).tr (wF.s _ 2 _ (by omega))).tr (wF.s _ 3 _ (by omega))
theorem wm_G (m : bp_M) (w : Nat) (v z : Int32) : wG m (wm m w v z) := ((wG.s20 m w v).tr (wG.s0 _ _ (by omega))).tr (wG.s0 _ _ (by omega))
theorem wc_5 (c : bp_M) (w : Nat) (v z : Int32) {y : Nat} (h : y ≠ 2) (h3 : y ≠ 3) : (wc c w v z).1 5 y = c.1 5 y := by
  rw [bp_s1k _ _ _ _ h3, bp_s1k _ _ _ _ h, bp_s1o _ _ _ _ (by decide)]
theorem wm_0 (m : bp_M) (w : Nat) (v z : Int32) {y : Nat} (h : y ≠ 44) (h3 : y ≠ 45) : (wm m w v z).1 0 y = m.1 0 y := by
  rw [bp_s1k _ _ _ _ h3, bp_s1k _ _ _ _ h, bp_s1o _ _ _ _ (by decide)]
theorem wB.st {w z z1 : Nat} {c m : bp_M} (h : wB w z c m) {v : Int32} (hv : jy v) (hz : z1 ≤ 2) : wB (w + 1) z1 (wc c w v (Int32.ofNat z1)) (wm m w v (Int32.ofNat z1)) := by
  obtain ⟨-, -, -, -, -, h6⟩ := h
  refine ⟨hz, ?_, ?_, bp_s1e _ _ _ _, bp_s1e _ _ _ _, fun i hi => ?_⟩
  · rw [bp_s1k _ _ _ _ (by decide), bp_s1e]
  · rw [bp_s1k _ _ _ _ (by decide), bp_s1e]
  · rw [bp_s1o _ _ _ _ (by decide), bp_s1o _ _ _ _ (by decide), bp_s1o _ 0 45 _ (by decide), bp_s1o _ 0 44 _ (by decide)]
    by_cases he : i = w
    · subst he
      rw [bp_s1e, bp_s1e]
      exact ⟨rfl, hv⟩
    · rw [bp_s1k _ _ _ _ he, bp_s1k _ _ _ _ he]
      exact h6 i (by omega)
theorem c_app (N : Nat) {c : bp_M} {w : Nat} (v : Int32) (hw : w < 400) (h : c.1 5 2 = Int32.ofNat w) : bc_UW_append N v c = some (wc c w v (if v = 0 then c.1 5 3 + 1 else 0)) := by
  have e : ¬ (400 : Int32) ≤ Int32.ofNat w := fun e => by have := (bp_le (a := 400) (by omega) (by omega)).mp e; omega
  have hin : vp_in (Int32.ofNat w) 400 := bp_in (by omega) hw
  have e2 : (bp_sI c 23 w v).1 5 2 = Int32.ofNat w := by rw [bp_s1o _ _ _ _ (by decide)]; exact h
  simp only [bc_UW_append, h, if_neg e, bp_git hin, bp_tn (show w < 2147483648 by omega), bp_nM, e2, bp_inc, bc_UW_append_L30, bc_UW_append_L45]
  by_cases hv : v = 0
  · have e3 : (bp_sI (bp_sI c 23 w v) 5 2 (Int32.ofNat (w + 1))).1 5 3 = c.1 5 3 := by rw [bp_s1k _ _ _ _ (by decide), bp_s1o _ _ _ _ (by decide)]
    simp only [hv, not_true, if_false, if_true]
    rw [hv] at e3
    rw [e3]
  · simp only [hv, not_false_iff, if_true, if_false]
theorem m_app (N : Nat) {m : bp_M} {w : Nat} (v : Int32) (hw : w < 420) (h : m.1 0 44 = Int32.ofNat w) : bm_M_byteOut_L38 N v m = some (wm m w v (if v = 0 then m.1 0 45 + 1 else 0)) := by
  have hin : vp_in (Int32.ofNat w) 420 := bp_in (by omega) hw
  have e2 : (bp_sI m 20 w v).1 0 44 = Int32.ofNat w := by rw [bp_s1o _ _ _ _ (by decide)]; exact h
  simp only [bm_M_byteOut_L38, h, bp_git hin, bp_tn (show w < 2147483648 by omega), bp_nM, e2, bp_inc, bm_M_byteOut_L73]
  by_cases hv : v = 0
  · have e3 : (bp_sI (bp_sI m 20 w v) 0 44 (Int32.ofNat (w + 1))).1 0 45 = m.1 0 45 := by rw [bp_s1k _ _ _ _ (by decide), bp_s1o _ _ _ _ (by decide)]
    simp only [hv, not_true, if_false, if_true]
    rw [hv] at e3
    rw [e3]
  · simp only [hv, not_false_iff, if_true, if_false]
theorem w_byte (N : Nat) {c m : bp_M} {w z : Nat} (h : wB w z c m) (hw : w + 2 ≤ 400) {v : Int32} (hv : jy v) : ∃ (c1 m1 : bp_M) (w1 z1 : Nat), bc_UW_putByte N v c = some c1 ∧ bm_M_byteOut N v m = some m1 ∧ wB w1 z1 c1 m1 ∧ wF c c1 ∧ wG m m1 ∧ 2 * w1 + z1 ≤ 2 * w + z + 3 ∧ w ≤ w1 ∧ c1.1 5 4 = c.1 5 4 ∧ c1.1 5 5 = c.1 5 5 ∧ m1.1 0 46 = m.1 0 46 ∧ m1.1 0 47 = m.1 0 47 := by
  obtain ⟨h1, h2, h3, h4, h5, h6⟩ := id h
  obtain ⟨b, -, hb, rfl⟩ := hv
  by_cases hs : z = 2 ∧ b ≤ 3
  · obtain ⟨rfl, hb3⟩ := hs
    have e1 : (Int32.ofNat 2 = 2) := rfl
    have e3 : ¬ (3 : Int32) < Int32.ofNat b := fun e => by have := (bp_lt (a := 3) (by omega) (by omega)).mp e; omega
    have n3 : ¬ (3 : Int32) = 0 := by decide
    have hB1 := h.st (v := 3) (z1 := 0) ⟨3, by omega, by omega, rfl⟩ (by omega)
    obtain ⟨g1, g2, g3, g4, g5, g6⟩ := id hB1
    have a1 := c_app N (c := c) 3 (show w < 400 by omega) h2
    rw [if_neg n3] at a1
    have hin : vp_in (Int32.ofNat w) 420 := bp_in (by omega) (by omega)
    have e2 : (bp_sI m 20 w 3).1 0 44 = Int32.ofNat w := by rw [bp_s1o _ _ _ _ (by decide)]; exact h3
    have a2 := c_app N (c := wc c w 3 0) (Int32.ofNat b) (show w + 1 < 400 by omega) g2
    have a3 := m_app N (m := wm m w 3 0) (Int32.ofNat b) (show w + 1 < 420 by omega) g3
    rw [show (wc c w 3 0).1 5 3 = Int32.ofNat 0 from g4, bp_inc] at a2
    rw [show (wm m w 3 0).1 0 45 = Int32.ofNat 0 from g5, bp_inc] at a3
    have hz : (if Int32.ofNat b = 0 then Int32.ofNat (0 + 1) else 0) = Int32.ofNat (if b = 0 then 1 else 0) := by
      by_cases hb0 : b = 0
      · subst hb0; rfl
      · rw [if_neg (bp_ne0 (by omega) hb0), if_neg hb0]; rfl
    rw [hz] at a2 a3
    have hB2 := hB1.st (v := Int32.ofNat b) (z1 := if b = 0 then 1 else 0) ⟨b, by omega, by omega, rfl⟩ (by split <;> omega)
    refine ⟨_, _, w + 1 + 1, if b = 0 then 1 else 0, ?_, ?_, hB2, (wc_F c w 3 _).tr (wc_F _ _ _ _), (wm_G m w 3 _).tr (wm_G _ _ _ _), by split <;> omega, by omega, ?_, ?_, ?_, ?_⟩
    · simp only [bc_UW_putByte, h4, e1, not_true, if_false, if_neg e3, a1, bp_cV, bc_UW_putByte_L18]
      rw [show wc c w 3 0 = wc c w 3 0 from rfl, a2]
      rfl
    · simp only [bm_M_byteOut, h5, e1, not_true, if_false, if_neg e3, h3, bp_git hin, bp_tn (show w < 2147483648 by omega), bp_nM, e2, bp_inc]
      exact a3
    · rw [wc_5 _ _ _ _ (by decide) (by decide), wc_5 _ _ _ _ (by decide) (by decide)]
    · rw [wc_5 _ _ _ _ (by decide) (by decide), wc_5 _ _ _ _ (by decide) (by decide)]
    · rw [wm_0 _ _ _ _ (by decide) (by decide), wm_0 _ _ _ _ (by decide) (by decide)]
    · rw [wm_0 _ _ _ _ (by decide) (by decide), wm_0 _ _ _ _ (by decide) (by decide)]
  · have a2 := c_app N (c := c) (Int32.ofNat b) (show w < 400 by omega) h2
    have a3 := m_app N (m := m) (Int32.ofNat b) (show w < 420 by omega) h3
    rw [h4, bp_inc] at a2
    rw [h5, bp_inc] at a3
    have hz : (if Int32.ofNat b = 0 then Int32.ofNat (z + 1) else 0) = Int32.ofNat (if b = 0 then z + 1 else 0) := by
      by_cases hb0 : b = 0
      · subst hb0; rfl
      · rw [if_neg (bp_ne0 (by omega) hb0), if_neg hb0]; rfl
    rw [hz] at a2 a3
    have hB2 := h.st (v := Int32.ofNat b) (z1 := if b = 0 then z + 1 else 0) ⟨b, by omega, by omega, rfl⟩ (by split <;> omega)
    refine ⟨_, _, w + 1, if b = 0 then z + 1 else 0, ?_, ?_, hB2, wc_F _ _ _ _, wm_G _ _ _ _, by split <;> omega, by omega, wc_5 _ _ _ _ (by decide) (by decide), wc_5 _ _ _ _ (by decide) (by decide), wm_0 _ _ _ _ (by decide) (by decide), wm_0 _ _ _ _ (by decide) (by decide)⟩
    · by_cases hz2 : z = 2
      · subst hz2
        have e1 : (Int32.ofNat 2 = 2) := rfl
        have e3 : (3 : Int32) < Int32.ofNat b := (bp_lt (a := 3) (by omega) (by omega)).mpr (by omega)
        simp only [bc_UW_putByte, h4, e1, not_true, if_false, if_pos e3, bc_UW_putByte_L18, a2, bp_cV]
      · have e1 : ¬ Int32.ofNat z = 2 := fun e => hz2 ((bp_eq (b := 2) (by omega) (by omega)).mp e)
        simp only [bc_UW_putByte, h4, e1, not_false_iff, if_true, bc_UW_putByte_L18, a2, bp_cV]
    · by_cases hz2 : z = 2
      · subst hz2
        have e1 : (Int32.ofNat 2 = 2) := rfl
        have e3 : (3 : Int32) < Int32.ofNat b := (bp_lt (a := 3) (by omega) (by omega)).mpr (by omega)
        simp only [bm_M_byteOut, h5, e1, not_true, if_false, if_pos e3, a3]
      · have e1 : ¬ Int32.ofNat z = 2 := fun e => hz2 ((bp_eq (b := 2) (by omega) (by omega)).mp e)
        simp only [bm_M_byteOut, h5, e1, not_false_iff, if_true, a3]
theorem bp_and1 (y : Int32) : ∃ n : Nat, n < 2 ∧ y &&& 1 = Int32.ofNat n := by
  refine ⟨(y &&& 1).toBitVec.toNat, ?_, ?_⟩
  · have h : (y &&& 1).toBitVec.toNat = y.toBitVec.toNat &&& 1 := by
      rw [Int32.toBitVec_and, BitVec.toNat_and]
      rfl
    rw [h]
    exact Nat.lt_succ_of_le Nat.and_le_right
  · apply Int32.toBitVec_inj.mp
    apply BitVec.eq_of_toNat_eq
    show _ = (BitVec.ofNat 32 _).toNat
    rw [BitVec.toNat_ofNat, Nat.mod_eq_of_lt (BitVec.isLt _)]
/-- the writer, t bits past the start code -/
def wR (t : Nat) (c m : bp_M) : Prop := ∃ r b w z g : Nat, t = 8 * r + b ∧ b < 8 ∧ 2 * w + z ≤ 6 + 3 * r ∧ 3 ≤ w ∧ g < 2 ^ b ∧ wB w z c m ∧ c.1 5 4 = Int32.ofNat g ∧ m.1 0 46 = Int32.ofNat g ∧ c.1 5 5 = Int32.ofNat b ∧ m.1 0 47 = Int32.ofNat b
theorem wB.ot {w z : Nat} {c m c1 m1 : bp_M} (h : wB w z c m) (a1 : c1.1 5 2 = c.1 5 2) (a2 : c1.1 5 3 = c.1 5 3) (a3 : ∀ y, c1.1 23 y = c.1 23 y) (b1 : m1.1 0 44 = m.1 0 44) (b2 : m1.1 0 45 = m.1 0 45) (b3 : ∀ y, m1.1 20 y = m.1 20 y) : wB w z c1 m1 := by
  unfold wB at h ⊢
  rw [a1, a2, b1, b2]
  simp only [a3, b3]
  exact h
theorem bp_dec {i : Nat} : Int32.ofNat (i + 1) + (-1) = Int32.ofNat i := by
  rw [← bp_add, Int32.add_assoc]
  show Int32.ofNat i + 0 = _
  rw [Int32.add_zero]
theorem w_bits (N : Nat) (v a2 a3 : Int32) : ∀ (k n n2 t : Nat) (c m : bp_M), k < n → k < n2 → k ≤ 40 → t + k ≤ 2112 → wR t c m → ∃ c1 m1, bc_UW_putBits_L4 N v a2 n (Int32.ofNat k + (-1)) c = some c1 ∧ bm_M_bitsOut_L4 N v a3 n2 (Int32.ofNat k + (-1)) m = some m1 ∧ wR (t + k) c1 m1 ∧ wF c c1 ∧ wG m m1 := by
  intro k
  induction k with
  | zero =>
    intro n n2 t c m hn hn2 _ ht h
    obtain ⟨n, rfl⟩ := Nat.exists_eq_succ_of_ne_zero (by omega : n ≠ 0)
    obtain ⟨n2, rfl⟩ := Nat.exists_eq_succ_of_ne_zero (by omega : n2 ≠ 0)
    have e : Int32.ofNat 0 + (-1) < 0 := by decide
    refine ⟨c, m, ?_, ?_, h, wF.rf c, wG.rf m⟩
    · rw [bc_UW_putBits_L4, if_pos e]; rfl
    · rw [bm_M_bitsOut_L4, if_pos e]; rfl
  | succ k ih =>
    intro n n2 t c m hn hn2 hk ht h
    obtain ⟨n, rfl⟩ := Nat.exists_eq_succ_of_ne_zero (by omega : n ≠ 0)
    obtain ⟨n2, rfl⟩ := Nat.exists_eq_succ_of_ne_zero (by omega : n2 ≠ 0)
    obtain ⟨r, b, w, z, g, h1, h2, h3, hw3, h4, h5, h6, h7, h8, h9⟩ := h
    rw [bc_UW_putBits_L4, bm_M_bitsOut_L4, bp_dec, if_neg (bp_nneg (by omega)), if_neg (bp_nneg (by omega))]
    obtain ⟨d, hd, hde⟩ := bp_and1 (v >>> (Int32.ofNat k &&& 31))
    have eg : 2 * Int32.ofNat g + Int32.ofNat d = Int32.ofNat (2 * g + d) := by
      rw [show (2 : Int32) = Int32.ofNat 2 from rfl, bp_mul, bp_add]
    have e5c : ∀ x, (bp_sI c 5 4 x).1 5 5 = Int32.ofNat b := fun x => by rw [bp_s1k _ _ _ _ (by decide)]; exact h8
    have e5m : ∀ x, (bp_sI m 0 46 x).1 0 47 = Int32.ofNat b := fun x => by rw [bp_s1k _ _ _ _ (by decide)]; exact h9
    simp only [bp_nM, hde, h6, h7, eg, e5c, e5m, bp_inc, bp_s1e]
    have hp : 2 ^ (b + 1) = 2 * 2 ^ b := by rw [Nat.pow_succ, Nat.mul_comm]
    by_cases hb : b = 7
    · subst hb
      have e8 : (Int32.ofNat (7 + 1) = 8) := rfl
      have hB1 : wB w z (bp_sI (bp_sI c 5 4 (Int32.ofNat (2 * g + d))) 5 5 (Int32.ofNat (7 + 1))) (bp_sI (bp_sI m 0 46 (Int32.ofNat (2 * g + d))) 0 47 (Int32.ofNat (7 + 1))) := by
        apply h5.ot
        · rw [bp_s1k _ _ _ _ (by decide), bp_s1k _ _ _ _ (by decide)]
        · rw [bp_s1k _ _ _ _ (by decide), bp_s1k _ _ _ _ (by decide)]
        · intro y; rw [bp_s1o _ _ _ _ (by decide), bp_s1o _ _ _ _ (by decide)]
        · rw [bp_s1k _ _ _ _ (by decide), bp_s1k _ _ _ _ (by decide)]
        · rw [bp_s1k _ _ _ _ (by decide), bp_s1k _ _ _ _ (by decide)]
        · intro y; rw [bp_s1o _ _ _ _ (by decide), bp_s1o _ _ _ _ (by decide)]
      obtain ⟨c1, m1, w1, z1, q1, q2, q3, q4, q5, q6, q7, q8, q9, q10, q11⟩ := w_byte N hB1 (show w + 2 ≤ 400 by omega) (v := Int32.ofNat (2 * g + d)) ⟨2 * g + d, by omega, by omega, rfl⟩
      have ec : (bp_sI (bp_sI c 5 4 (Int32.ofNat (2 * g + d))) 5 5 (Int32.ofNat (7 + 1))).1 5 4 = Int32.ofNat (2 * g + d) := by rw [bp_s1k _ _ _ _ (by decide), bp_s1e]
      have em : (bp_sI (bp_sI m 0 46 (Int32.ofNat (2 * g + d))) 0 47 (Int32.ofNat (7 + 1))).1 0 46 = Int32.ofNat (2 * g + d) := by rw [bp_s1k _ _ _ _ (by decide), bp_s1e]
      simp only [e8, not_true, if_false]
      rw [e8] at q1 q2 ec em
      simp only [ec, em, q1, q2, bp_cV, bc_UW_putBits_L61, bm_M_bitsOut_L61, bp_nI]
      have hB2 : wB w1 z1 (bp_sI (bp_sI c1 5 4 0) 5 5 0) (bp_sI (bp_sI m1 0 46 0) 0 47 0) := by
        apply q3.ot
        · rw [bp_s1k _ _ _ _ (by decide), bp_s1k _ _ _ _ (by decide)]
        · rw [bp_s1k _ _ _ _ (by decide), bp_s1k _ _ _ _ (by decide)]
        · intro y; rw [bp_s1o _ _ _ _ (by decide), bp_s1o _ _ _ _ (by decide)]
        · rw [bp_s1k _ _ _ _ (by decide), bp_s1k _ _ _ _ (by decide)]
        · rw [bp_s1k _ _ _ _ (by decide), bp_s1k _ _ _ _ (by decide)]
        · intro y; rw [bp_s1o _ _ _ _ (by decide), bp_s1o _ _ _ _ (by decide)]
      have hR : wR (t + 1) (bp_sI (bp_sI c1 5 4 0) 5 5 0) (bp_sI (bp_sI m1 0 46 0) 0 47 0) := by
        refine ⟨r + 1, 0, w1, z1, 0, by omega, by omega, by omega, by omega, by decide, hB2, ?_, ?_, ?_, ?_⟩
        · rw [bp_s1k _ _ _ _ (by decide), bp_s1e]; rfl
        · rw [bp_s1k _ _ _ _ (by decide), bp_s1e]; rfl
        · rw [bp_s1e]; rfl
        · rw [bp_s1e]; rfl
      obtain ⟨c2, m2, p1, p2, p3, p4, p5⟩ := ih n n2 (t + 1) _ _ (by omega) (by omega) (by omega) (by omega) hR
      refine ⟨c2, m2, p1, p2, by rw [show t + (k + 1) = t + 1 + k by omega]; exact p3, ?_, ?_⟩
      · exact ((((wF.s c 4 _ (by omega)).tr (wF.s _ 5 _ (by omega))).tr q4).tr ((wF.s c1 4 0 (by omega)).tr (wF.s _ 5 0 (by omega)))).tr p4
      · exact ((((wG.s0 m _ (by omega)).tr (wG.s0 _ _ (by omega))).tr q5).tr ((wG.s0 m1 0 (by omega)).tr (wG.s0 _ 0 (by omega)))).tr p5
    · have e8 : ¬ Int32.ofNat (b + 1) = 8 := fun e => by have := (bp_eq (b := 8) (by omega) (by omega)).mp e; omega
      simp only [e8, not_false_iff, if_true, bc_UW_putBits_L61, bm_M_bitsOut_L61, bp_nI]
      have hR : wR (t + 1) (bp_sI (bp_sI c 5 4 (Int32.ofNat (2 * g + d))) 5 5 (Int32.ofNat (b + 1))) (bp_sI (bp_sI m 0 46 (Int32.ofNat (2 * g + d))) 0 47 (Int32.ofNat (b + 1))) := by
        refine ⟨r, b + 1, w, z, 2 * g + d, by omega, by omega, by omega, by omega, by omega, ?_, ?_, ?_, ?_, ?_⟩
        · apply h5.ot
          · rw [bp_s1k _ _ _ _ (by decide), bp_s1k _ _ _ _ (by decide)]
          · rw [bp_s1k _ _ _ _ (by decide), bp_s1k _ _ _ _ (by decide)]
          · intro y; rw [bp_s1o _ _ _ _ (by decide), bp_s1o _ _ _ _ (by decide)]
          · rw [bp_s1k _ _ _ _ (by decide), bp_s1k _ _ _ _ (by decide)]
          · rw [bp_s1k _ _ _ _ (by decide), bp_s1k _ _ _ _ (by decide)]
          · intro y; rw [bp_s1o _ _ _ _ (by decide), bp_s1o _ _ _ _ (by decide)]
        · rw [bp_s1k _ _ _ _ (by decide), bp_s1e]
        · rw [bp_s1k _ _ _ _ (by decide), bp_s1e]
        · rw [bp_s1e]
        · rw [bp_s1e]
      obtain ⟨c2, m2, p1, p2, p3, p4, p5⟩ := ih n n2 (t + 1) _ _ (by omega) (by omega) (by omega) (by omega) hR
      refine ⟨c2, m2, p1, p2, by rw [show t + (k + 1) = t + 1 + k by omega]; exact p3, ?_, ?_⟩
      · exact ((wF.s c 4 _ (by omega)).tr (wF.s _ 5 _ (by omega))).tr p4
      · exact ((wG.s0 m _ (by omega)).tr (wG.s0 _ _ (by omega))).tr p5

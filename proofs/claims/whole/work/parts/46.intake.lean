def jSS (S : Nat) (c m : bp_M) : Prop := ∃ n : Nat, n ≤ S ∧ c.1 4 5 = Int32.ofNat n ∧ m.1 0 39 = Int32.ofNat n ∧ (∀ j, j < 8 → j < n → c.1 21 ((n - 1 - j) % 8) = m.1 17 j) ∧ (0 < n → ∀ i, i < 256 → c.1 20 i = m.1 18 i)
def jK (S : Nat) (c m : bp_M) : Prop := c.1 0 6 = m.1 0 9 ∧ jP c m ∧ jT c ∧ jB c m ∧ jSS S c m ∧ jL c m ∧ jW c m ∧ jC m
def jA (S : Nat) (c m : bp_M) : Prop := c.1 0 5 = m.1 0 8 ∧ jI c m ∧ jK S c m
theorem jA_of {k : Nat} {c m : bp_M} (h : bp_J k c m) : jA (4000 * k) c m := by
  obtain ⟨h1, h2, h3, h4, h5, h6, h7, h8, h9, h10⟩ := h
  exact ⟨h1, h3, h2, h4, h5, h6, h7, h8, h9, h10⟩
theorem jA_to {k S : Nat} {c m : bp_M} (h : jA S c m) (hS : S ≤ 4000 * k) : bp_J k c m := by
  obtain ⟨h1, h3, h2, h4, h5, h6, ⟨n, hn, h7⟩, h8, h9, h10⟩ := h
  exact ⟨h1, h2, h3, h4, h5, h6, ⟨n, by omega, h7⟩, h8, h9, h10⟩
/-- what the writer holds stays -/
def jFr (c m c1 m1 : bp_M) : Prop := (∀ y, c1.1 5 y = c.1 5 y) ∧ (∀ y, c1.1 23 y = c.1 23 y) ∧ m1.1 0 44 = m.1 0 44 ∧ ∀ y, m1.1 20 y = m.1 20 y
theorem jFr.tr {c m c1 m1 c2 m2 : bp_M} (h : jFr c m c1 m1) (g : jFr c1 m1 c2 m2) : jFr c m c2 m2 := ⟨fun y => (g.1 y).trans (h.1 y), fun y => (g.2.1 y).trans (h.2.1 y), g.2.2.1.trans h.2.2.1, fun y => (g.2.2.2 y).trans (h.2.2.2 y)⟩
/-- a change of the intake's cells -/
def iF (c c1 : bp_M) : Prop := c1.2 = c.2 ∧ (∀ x, x ≠ 0 → x ≠ 1 → x ≠ 15 → ∀ y, c1.1 x y = c.1 x y) ∧ c1.1 0 6 = c.1 0 6
def iG (m m1 : bp_M) : Prop := m1.2 = m.2 ∧ (∀ x, x ≠ 0 → x ≠ 4 → ∀ y, m1.1 x y = m.1 x y) ∧ ∀ y, ¬ (4 ≤ y ∧ y ≤ 8) → m1.1 0 y = m.1 0 y
theorem iF.rf (c : bp_M) : iF c c := ⟨rfl, fun _ _ _ _ _ => rfl, rfl⟩
theorem iG.rf (m : bp_M) : iG m m := ⟨rfl, fun _ _ _ _ => rfl, fun _ _ => rfl⟩
theorem iF.s {c c1 : bp_M} (h : iF c c1) {o k : Nat} (v : Int32) (ho : o = 1 ∨ o = 15 ∨ (o = 0 ∧ k = 5)) : iF c (bp_sI c1 o k v) := ⟨h.1, fun x a1 a2 a3 y => (bp_s1o c1 o k v (by omega) y).trans (h.2.1 x a1 a2 a3 y), by
  rw [bp_s1, if_neg (by omega)]
  exact h.2.2⟩
theorem iG.s {m m1 : bp_M} (h : iG m m1) {o k : Nat} (v : Int32) (ho : o = 4 ∨ (o = 0 ∧ 4 ≤ k ∧ k ≤ 8)) : iG m (bp_sI m1 o k v) := ⟨h.1, fun x a1 a2 y => (bp_s1o m1 o k v (by omega) y).trans (h.2.1 x a1 a2 y), fun y hy => by
  rw [bp_s1, if_neg (by omega)]
  exact h.2.2 y hy⟩
theorem iFr {c m c1 m1 : bp_M} (f : iF c c1) (g : iG m m1) : jFr c m c1 m1 := ⟨fun y => f.2.1 5 (by decide) (by decide) (by decide) y, fun y => f.2.1 23 (by decide) (by decide) (by decide) y, g.2.2 44 (by omega), fun y => g.2.1 20 (by decide) (by decide) y⟩
theorem jK_in {S : Nat} {c m c1 m1 : bp_M} (h : jK S c m) (f : iF c c1) (g : iG m m1) : jK S c1 m1 := by
  obtain ⟨h2, h4, h5, h6, h7, h8, h9, h10⟩ := h
  obtain ⟨f1, f2, f3⟩ := f
  obtain ⟨g1, g2, g3⟩ := g
  refine ⟨?_, jP_of h4 ?_ ?_, jT_of h5 (fun _ => by rw [f1]) (fun _ => by rw [f1]), jB_of h6 h5 (fun _ => by rw [f1]) ?_ ?_ ?_ ?_ ?_ ?_ ?_, ?_, jL_of h8 (fun _ => by rw [f1]) ?_ ?_ ?_ ?_, jW_of h9 ?_ ?_ ?_ ?_ ?_ ?_, jC_of h10 (fun o ho y => g2 o (by omega) (by omega) y)⟩
  · rw [f3, g3 9 (by omega)]; exact h2
  · exact fun y => f2 2 (by decide) (by decide) (by decide) y
  · exact fun y hy => g3 y (by omega)
  · exact f2 4 (by decide) (by decide) (by decide) 1
  · exact f2 4 (by decide) (by decide) (by decide) 2
  · exact f2 2 (by decide) (by decide) (by decide) 3
  · exact fun o ho y => f2 o (by omega) (by omega) (by omega) y
  · exact g3 34 (by omega)
  · exact g3 17 (by omega)
  · exact fun o ho y => g2 o (by omega) (by omega) y
  · unfold jSS at h7 ⊢
    simp only [f2 4 (by decide) (by decide) (by decide), f2 21 (by decide) (by decide) (by decide), f2 20 (by decide) (by decide) (by decide), g3 39 (by omega), g2 17 (by decide) (by decide), g2 18 (by decide) (by decide)]
    exact h7
  · exact fun o ho y => f2 o (by omega) (by omega) (by omega) y
  · exact g3 32 (by omega)
  · exact g3 33 (by omega)
  · exact fun y => g2 12 (by decide) (by decide) y
  · exact f2 5 (by decide) (by decide) (by decide) 2
  · exact fun y => f2 22 (by decide) (by decide) (by decide) y
  · exact fun y => f2 23 (by decide) (by decide) (by decide) y
  · exact g3 44 (by omega)
  · exact fun y => g2 19 (by decide) (by decide) y
  · exact fun y => g2 20 (by decide) (by decide) y
/-- the work on a unit that has ended: owed -/
def lw_Work (N : Nat) : Prop := ∀ (S n : Nat) (c m : bp_M), S ≤ 3000000 → 1 ≤ n → n ≤ 320 → c.1 1 2 = Int32.ofNat n → m.1 0 4 = Int32.ofNat n → (∀ i, i < n → c.1 15 i = m.1 4 i ∧ jy (c.1 15 i)) → jK S c m → ∃ c1 m1, bc_BP_workThrough N c = some c1 ∧ bm_M_work N m = some m1 ∧ c1.1 0 5 = m1.1 0 8 ∧ jK (S + 10) c1 m1 ∧ (∀ y, c1.1 1 y = c.1 1 y) ∧ (∀ y, 4 ≤ y ∧ y ≤ 7 → m1.1 0 y = m.1 0 y) ∧ jFr c m c1 m1
theorem jSS.up {S T : Nat} {c m : bp_M} (h : jSS S c m) (hT : S ≤ T) : jSS T c m := by
  obtain ⟨n, hn, h⟩ := h
  exact ⟨n, by omega, h⟩
theorem jK.up {S T : Nat} {c m : bp_M} (h : jK S c m) (hT : S ≤ T) : jK T c m := by
  obtain ⟨h1, h2, h3, h4, h5, h6⟩ := h
  exact ⟨h1, h2, h3, h4, h5.up hT, h6⟩
/-- one byte, while no fault stands -/
theorem i_byte (N : Nat) (hW : lw_Work N) {S v : Nat} (hS : S ≤ 3000000) (hv : v < 256) {c m : bp_M} (h0 : c.1 0 5 = 0) (hA : jA S c m) : ∃ (c2 m1 : bp_M) (d : Nat), (d = 0 ∧ bc_BP_unitEndsAt N (Int32.ofNat v) c = some (0, c2) ∨ d = 1 ∧ ∃ c1, bc_BP_unitEndsAt N (Int32.ofNat v) c = some (1, c1) ∧ bc_BP_workThrough N c1 = some c2) ∧ bm_M_take N (Int32.ofNat v) m = some m1 ∧ m1.1 0 7 = m.1 0 7 + Int32.ofNat d ∧ jA (S + 10) c2 m1 ∧ jFr c m c2 m1 := by
  obtain ⟨hf, hI, hK⟩ := hA
  obtain ⟨i1, i2, i3, i4, n, n1, n2, n3, n4, n5, n6⟩ := hI h0
  have g01 : (0 : Int32) = 0 ∨ (0 : Int32) = 1 := Or.inl rfl
  have m8 : m.1 0 8 = 0 := hf.symm.trans h0
  rcases i3 with hin | hin
  · -- outside a unit
    have hn0 := n4 hin
    subst hn0
    have mi : m.1 0 5 = 0 := i2.symm.trans hin
    by_cases hv0 : v = 0
    · subst hv0
      have e0 : (Int32.ofNat 0 = 0) := rfl
      have e1 : ¬ (Int32.ofNat 0 : Int32) = 1 := by decide
      refine ⟨bp_sI (bp_sI c 1 3 (c.1 1 3 + 1)) 0 5 0, bp_sI m 0 6 (m.1 0 6 + 1), 0, Or.inl ⟨rfl, ?_⟩, ?_, ?_, ⟨?_, ?_, (jK_in hK (((iF.rf c).s _ (by omega)).s _ (by omega)) ((iG.rf m).s _ (by omega))).up (by omega)⟩, iFr (((iF.rf c).s _ (by omega)).s _ (by omega)) ((iG.rf m).s _ (by omega))⟩
      · have e4 : (bp_sI c 1 3 (c.1 1 3 + 1)).1 1 4 = 0 := by rw [bp_s1k _ _ _ _ (by decide)]; exact i1
        simp only [bc_BP_unitEndsAt, h0, if_true, bc_UI_take, hin, not_true, if_false, bc_UI_takeOutside, e0, bp_nM, bp_cV, bp_cI, bp_g, true_or, e4]
      · simp only [bm_M_take, mi, not_true, if_false, e1, not_false_iff, if_true, bm_M_take_L38, e0, bm_M_take_L53, bp_nM, bm_M_take_L136]
        rfl
      · rw [bp_s1k _ _ _ _ (by decide)]; exact (Int32.add_zero _).symm
      · rw [bp_s1e, bp_s1k _ _ _ _ (by decide)]; exact m8.symm
      · intro _
        refine ⟨?_, ?_, ?_, ?_, 0, by omega, ?_, ?_, fun _ => rfl, fun h => ?_, fun i hi => absurd hi (by omega)⟩
        · simp [bp_s1]; exact i1
        · simp [bp_s1]; exact i2
        · simp [bp_s1]; exact Or.inl hin
        · simp [bp_s1]; rw [i4]
        · simp [bp_s1]; exact n2
        · simp [bp_s1]; exact n3
        · simp [bp_s1] at h; rw [hin] at h; exact absurd h (by decide)
    · have e0 : ¬ Int32.ofNat v = 0 := bp_ne0 (by omega) hv0
      by_cases hst : v = 1 ∧ ¬ c.1 1 3 < 2
      · obtain ⟨rfl, hz⟩ := hst
        have e1 : (Int32.ofNat 1 : Int32) = 1 := rfl
        have hz2 : ¬ m.1 0 6 < 2 := by rw [← i4]; exact hz
        have F : iF c (bp_sI (bp_sI (bp_sI c 1 5 1) 1 3 0) 0 5 0) := (((iF.rf c).s _ (by omega)).s _ (by omega)).s _ (by omega)
        have G : iG m (bp_sI (bp_sI (bp_sI m 0 5 1) 0 4 0) 0 6 0) := (((iG.rf m).s _ (by omega)).s _ (by omega)).s _ (by omega)
        refine ⟨bp_sI (bp_sI (bp_sI c 1 5 1) 1 3 0) 0 5 0, bp_sI (bp_sI (bp_sI m 0 5 1) 0 4 0) 0 6 0, 0, Or.inl ⟨rfl, ?_⟩, ?_, ?_, ⟨?_, ?_, (jK_in hK F G).up (by omega)⟩, iFr F G⟩
        · have e4 : (bp_sI (bp_sI c 1 5 1) 1 3 0).1 1 4 = 0 := by simp [bp_s1]; exact i1
          simp only [bc_BP_unitEndsAt, h0, if_true, bc_UI_take, hin, not_true, if_false, bc_UI_takeOutside, e0, not_false_iff, e1, if_neg hz, bc_UI_takeOutside_L34, bp_nM, bp_cV, bp_cI, bp_g, true_or, or_true, e4, bp_10]
        · simp only [bm_M_take, mi, not_true, if_false, e1, if_neg hz2, bp_g, or_true, if_true, bp_nM, bm_M_take_L136]
        · simp [bp_s1]
        · simp [bp_s1]; exact m8.symm
        · intro _
          refine ⟨?_, ?_, ?_, ?_, 0, by omega, ?_, ?_, fun _ => rfl, fun h => ⟨0, by omega, by omega, ?_⟩, fun i hi => absurd hi (by omega)⟩
          · simp [bp_s1]; exact i1
          · simp [bp_s1]
          · simp [bp_s1]; exact Or.inr rfl
          · simp [bp_s1]
          · simp [bp_s1]; exact n2
          · simp [bp_s1]
          · simp [bp_s1]
      · have F : iF c (bp_sI (bp_sI (bp_sI c 1 5 0) 1 3 0) 0 5 0) := (((iF.rf c).s _ (by omega)).s _ (by omega)).s _ (by omega)
        have G : iG m (bp_sI m 0 6 0) := (iG.rf m).s _ (by omega)
        refine ⟨bp_sI (bp_sI (bp_sI c 1 5 0) 1 3 0) 0 5 0, bp_sI m 0 6 0, 0, Or.inl ⟨rfl, ?_⟩, ?_, ?_, ⟨?_, ?_, (jK_in hK F G).up (by omega)⟩, iFr F G⟩
        · have e4 : (bp_sI (bp_sI c 1 5 0) 1 3 0).1 1 4 = 0 := by simp [bp_s1]; exact i1
          have et : bc_UI_takeOutside N (Int32.ofNat v) c = some (bp_sI (bp_sI c 1 5 0) 1 3 0) := by
            by_cases hv1 : v = 1
            · subst hv1
              have hz : c.1 1 3 < 2 := by
                by_cases hz : c.1 1 3 < 2
                · exact hz
                · exact absurd ⟨rfl, hz⟩ hst
              have e1 : (Int32.ofNat 1 : Int32) = 1 := rfl
              simp only [bc_UI_takeOutside, e1, bp_10, not_false_iff, if_true, not_true, if_false, if_pos hz, bc_UI_takeOutside_L33, bc_UI_takeOutside_L34, bp_nM, bp_g, true_or]
            · have e1 : ¬ Int32.ofNat v = 1 := fun e => hv1 ((bp_eq (b := 1) (by omega) (by omega)).mp e)
              simp only [bc_UI_takeOutside, e0, not_false_iff, if_true, e1, bc_UI_takeOutside_L33, bc_UI_takeOutside_L34, bp_nM, bp_g, true_or]
          simp only [bc_BP_unitEndsAt, h0, if_true, bc_UI_take, hin, not_true, if_false, et, bp_nM, bp_cV, bp_cI, bp_g, true_or, e4]
        · by_cases hv1 : v = 1
          · subst hv1
            have hz : m.1 0 6 < 2 := by
              rw [← i4]
              by_cases hz : c.1 1 3 < 2
              · exact hz
              · exact absurd ⟨rfl, hz⟩ hst
            have e1 : (Int32.ofNat 1 : Int32) = 1 := rfl
            simp only [bm_M_take, mi, not_true, if_false, e1, if_pos hz, bm_M_take_L38, bp_10, not_false_iff, if_true, bm_M_take_L53, bp_nM, bm_M_take_L136]
          · have e1 : ¬ Int32.ofNat v = 1 := fun e => hv1 ((bp_eq (b := 1) (by omega) (by omega)).mp e)
            simp only [bm_M_take, mi, not_true, if_false, e1, not_false_iff, if_true, bm_M_take_L38, e0, bm_M_take_L53, bp_nM, bm_M_take_L136]
        · simp [bp_s1]
        · simp [bp_s1]; exact m8.symm
        · intro _
          refine ⟨?_, ?_, ?_, ?_, 0, by omega, ?_, ?_, fun _ => rfl, fun h => ?_, fun i hi => absurd hi (by omega)⟩
          · simp [bp_s1]; exact i1
          · simp [bp_s1]; exact mi.symm
          · simp [bp_s1]; exact Or.inl rfl
          · simp [bp_s1]
          · simp [bp_s1]; exact n2
          · simp [bp_s1]; exact n3
          · simp [bp_s1] at h
  · -- inside a unit
    obtain ⟨z, z1, z2, z3⟩ := n5 hin
    have mi : m.1 0 5 = 1 := i2.symm.trans hin
    have mz : m.1 0 6 = Int32.ofNat z := i4.symm.trans z3
    by_cases hmk : z = 2 ∧ v ≤ 3
    · obtain ⟨rfl, hv3⟩ := hmk
      have ez : (Int32.ofNat 2 : Int32) = 2 := rfl
      have e3 : ¬ (3 : Int32) < Int32.ofNat v := fun e => by have := (bp_lt (a := 3) (by omega) (by omega)).mp e; omega
      rcases (show v = 3 ∨ v = 2 ∨ v ≤ 1 by omega) with rfl | rfl | hv1
      · have F : iF c (bp_sI (bp_sI c 1 3 0) 0 5 0) := ((iF.rf c).s _ (by omega)).s _ (by omega)
        have G : iG m (bp_sI m 0 6 0) := (iG.rf m).s _ (by omega)
        have a0 : ¬ (Int32.ofNat 3 : Int32) = 0 := by decide
        have a2 : ¬ (Int32.ofNat 3 : Int32) = 2 := by decide
        have a3 : ¬ (Int32.ofNat 3 : Int32) < 2 := by decide
        have a4 : (Int32.ofNat 3 : Int32) = 3 := rfl
        refine ⟨bp_sI (bp_sI c 1 3 0) 0 5 0, bp_sI m 0 6 0, 0, Or.inl ⟨rfl, ?_⟩, ?_, ?_, ⟨?_, ?_, (jK_in hK F G).up (by omega)⟩, iFr F G⟩
        · have e4 : (bp_sI c 1 3 0).1 1 4 = 0 := by simp [bp_s1]; exact i1
          have et : bc_UI_takeMark N (Int32.ofNat 3) c = some (0, bp_sI c 1 3 0) := by
            simp only [bc_UI_takeMark, a0, not_false_iff, if_true, bc_UI_takeMark_L10, bp_nM, a2, bc_UI_takeMark_L23, if_neg a3, bp_g, true_or]
          simp only [bc_BP_unitEndsAt, h0, if_true, bc_UI_take, hin, bp_10, not_false_iff, z3, ez, not_true, if_false, if_neg e3, et, bp_nM, bp_cV, bp_cI, bp_g, true_or, e4]
        · have et : bm_M_close N (Int32.ofNat 3) m = some (bp_sI m 0 6 0) := by
            simp only [bm_M_close, a4, not_true, if_false, bp_nM, bm_M_close_L73]
          simp only [bm_M_take, mi, bp_10, not_false_iff, if_true, mz, ez, not_true, if_false, if_neg e3, et, bp_cV, bm_M_take_L136]
        · simp [bp_s1]
        · simp [bp_s1]; exact m8.symm
        · intro _
          refine ⟨?_, ?_, ?_, ?_, n, n1, ?_, ?_, fun h => ?_, fun h => ⟨0, by omega, by omega, ?_⟩, fun i hi => ?_⟩
          · simp [bp_s1]; exact i1
          · simp [bp_s1]; exact i2
          · simp [bp_s1]; exact Or.inr hin
          · simp [bp_s1]
          · simp [bp_s1]; exact n2
          · simp [bp_s1]; exact n3
          · simp [bp_s1] at h; rw [hin] at h; exact absurd h (by decide)
          · simp [bp_s1]
          · simp [bp_s1]; exact n6 i hi
      · have F : iF c (bp_sI (bp_sI (bp_sI c 1 3 0) 1 4 2) 0 5 2) := (((iF.rf c).s _ (by omega)).s _ (by omega)).s _ (by omega)
        have G : iG m (bp_sI m 0 8 2) := (iG.rf m).s _ (by omega)
        have a0 : ¬ (2 : Int32) = 0 := by decide
        have a3 : ¬ (2 : Int32) < 2 := by decide
        have a4 : ¬ (2 : Int32) = 3 := by decide
        refine ⟨bp_sI (bp_sI (bp_sI c 1 3 0) 1 4 2) 0 5 2, bp_sI m 0 8 2, 0, Or.inl ⟨rfl, ?_⟩, ?_, ?_, ⟨?_, ?_, (jK_in hK F G).up (by omega)⟩, iFr F G⟩
        · have et : bc_UI_takeMark N (Int32.ofNat 2) c = some (0, bp_sI (bp_sI c 1 3 0) 1 4 2) := by
            simp only [bc_UI_takeMark, a0, not_false_iff, if_true, bc_UI_takeMark_L10, bp_nM, ez, not_true, if_false, bc_UI_takeMark_L23, if_neg a3, bp_g, true_or]
          simp only [bc_BP_unitEndsAt, h0, if_true, bc_UI_take, hin, bp_10, not_false_iff, z3, ez, not_true, if_false, bp_nM, bp_cV, bp_cI, bp_g, true_or] at et ⊢
          rw [if_neg (by decide), et]
          simp only [bp_s1e, if_true, true_or]
        · have et : bm_M_close N (Int32.ofNat 2) m = some (bp_sI m 0 8 2) := by
            simp only [bm_M_close, ez, a4, not_false_iff, if_true, not_true, if_false, bp_nM, bm_M_close_L73]
          simp only [bm_M_take, mi, bp_10, not_false_iff, if_true, mz, not_true, if_false] at et ⊢
          rw [if_neg (fun hn => hn ez), if_neg e3, et]
          rfl
        · simp [bp_s1]
        · simp [bp_s1]
        · intro h
          simp [bp_s1] at h
      · -- the unit ends
        obtain ⟨n', rfl⟩ : ∃ n', n = n' + 2 := ⟨n - 2, by omega⟩
        have el : Int32.ofNat (n' + 2) - 2 = Int32.ofNat n' := bp_sub (a := n' + 2) (b := 2) (by omega)
        have a2 : ¬ Int32.ofNat v = 2 := fun e => by have := (bp_eq (b := 2) (by omega) (by omega)).mp e; omega
        have a3 : ¬ Int32.ofNat v = 3 := fun e => by have := (bp_eq (b := 3) (by omega) (by omega)).mp e; omega
        have a4 : Int32.ofNat v < 2 := (bp_lt (b := 2) (by omega) (by omega)).mpr (by omega)
        -- class: the mark, up to the unit's end
        obtain ⟨zc, hzc⟩ : ∃ zc : Int32, zc = if v = 0 then 3 else 0 := ⟨_, rfl⟩
        obtain ⟨ic, hic⟩ : ∃ ic : Int32, ic = if v = 1 then 1 else 0 := ⟨_, rfl⟩
        have hicb : ic = 0 ∨ ic = 1 := by rw [hic]; split; exact Or.inr rfl; exact Or.inl rfl
        obtain ⟨c1, hc1⟩ : ∃ c1 : bp_M, c1 = bp_sI (bp_sI (bp_sI (bp_sI c 1 3 zc) 1 5 ic) 1 2 (Int32.ofNat n')) 1 1 0 := ⟨_, rfl⟩
        have F1 : iF c (bp_sI c1 0 5 0) := by rw [hc1]; exact (((((iF.rf c).s _ (by omega)).s _ (by omega)).s _ (by omega)).s _ (by omega)).s _ (by omega)
        have k1 : c1.1 1 1 = 0 := by rw [hc1]; simp [bp_s1]
        have k2 : c1.1 1 2 = Int32.ofNat n' := by rw [hc1]; simp [bp_s1]
        have k3 : c1.1 1 3 = zc := by rw [hc1]; simp [bp_s1]
        have k4 : c1.1 1 4 = 0 := by rw [hc1]; simp [bp_s1]; exact i1
        have k5 : c1.1 1 5 = ic := by rw [hc1]; simp [bp_s1]
        have k15 : ∀ y, c1.1 15 y = c.1 15 y := fun y => by rw [hc1]; simp [bp_s1]
        have et : bc_UI_takeMark N (Int32.ofNat v) c = some (if n' = 0 then 0 else 1, c1) := by
          have e9 : bc_UI_takeMark N (Int32.ofNat v) c = bc_UI_takeMark_L10 N (Int32.ofNat v) zc c := by
            rw [bc_UI_takeMark, hzc]
            by_cases h : v = 0
            · subst h; rfl
            · rw [if_pos (bp_ne0 (by omega) h), if_neg h]
          have e10 : ∀ x : bp_M, bc_UI_takeMark_L23 N (Int32.ofNat v) x = bc_UI_takeMark_L41 N (Int32.ofNat v) ic x := fun x => by
            rw [bc_UI_takeMark_L23, if_pos a4, hic]
            by_cases h : v = 1
            · subst h; rfl
            · have e17 : ¬ Int32.ofNat v = 1 := fun e => h ((bp_eq (b := 1) (by omega) (by omega)).mp e)
              rw [if_pos e17, if_neg h]
          have e11 : (bp_sI (bp_sI c 1 3 zc) 1 5 ic).1 1 1 = Int32.ofNat (n' + 2) := by rw [bp_s1k _ _ _ _ (by decide), bp_s1k _ _ _ _ (by decide)]; exact n2
          have e12 : (bp_sI (bp_sI (bp_sI (bp_sI c 1 3 zc) 1 5 ic) 1 2 (Int32.ofNat n')) 1 1 0).1 1 2 = Int32.ofNat n' := by simp [bp_s1]
          rw [e9]
          simp only [bc_UI_takeMark_L10, bp_nM, a2, not_false_iff, if_true, e10, bc_UI_takeMark_L41, bp_gt hicb, bc_UI_endUnit, e11, el, e12, bc_UI_endUnit_L27]
          by_cases h : n' = 0
          · subst h
            have e13 : (Int32.ofNat 0 ≤ 0) := by decide
            simp only [if_pos e13, bp_g, true_or, if_true, bp_cI, hc1]
          · have e13 := bp_nl0 (show n' < 2147483648 by omega) h
            simp only [if_neg e13, bp_g, or_true, if_true, bp_cI, if_neg h, hc1]
        have eu : bc_BP_unitEndsAt N (Int32.ofNat v) c = some (if n' = 0 then 0 else 1, bp_sI c1 0 5 0) := by
          have e14 : (if n' = 0 then (0 : Int32) else 1) = 0 ∨ (if n' = 0 then (0 : Int32) else 1) = 1 := by split; exact Or.inl rfl; exact Or.inr rfl
          simp only [bc_BP_unitEndsAt, h0, if_true, bc_UI_take, hin, bp_10, not_false_iff, z3, ez, not_true, if_false, if_neg e3, et, bp_nM, bp_cI, k4, bp_gt e14]
        -- reference: behind the work
        have hcl : ∀ (m2 : bp_M), bm_M_finish N (bp_sI m 0 4 (Int32.ofNat n')) = some m2 → bm_M_take N (Int32.ofNat v) m = some (bp_sI (bp_sI (bp_sI m2 0 5 ic) 0 6 (if v = 1 then 0 else 3)) 0 4 0) := fun m2 hm2 => by
          have e15 : bm_M_close N (Int32.ofNat v) m = some (bp_sI (bp_sI (bp_sI m2 0 5 ic) 0 6 (if v = 1 then 0 else 3)) 0 4 0) := by
            simp only [bm_M_close, a3, a2, not_false_iff, if_true, bp_nM, n3, el, hm2, bp_cV]
            by_cases h : v = 1
            · subst h
              have e16 : (Int32.ofNat 1 : Int32) = 1 := rfl
              rw [hic]
              simp only [e16, not_true, if_false, bm_M_close_L51, bp_g, or_true, if_true, bp_nM, bm_M_close_L65, bm_M_close_L73]
            · have e16 : ¬ Int32.ofNat v = 1 := fun e => h ((bp_eq (b := 1) (by omega) (by omega)).mp e)
              rw [hic]
              simp only [e16, not_false_iff, if_true, bm_M_close_L51, bp_g, true_or, bp_nM, bm_M_close_L65, bm_M_close_L73, if_neg h]
          simp only [bm_M_take, mi, bp_10, not_false_iff, if_true, mz, ez, not_true, if_false, if_neg e3, e15, bp_cV, bm_M_take_L136]
        have hzz : zc = if v = 1 then 0 else 3 := by
          rw [hzc]
          rcases (show v = 0 ∨ v = 1 by omega) with rfl | rfl <;> rfl
        by_cases h : n' = 0
        · subst h
          rw [if_pos rfl] at eu
          have hm2 : bm_M_finish N (bp_sI m 0 4 (Int32.ofNat 0)) = some (bp_sI m 0 4 (Int32.ofNat 0)) := by
            have e13 : (Int32.ofNat 0 ≤ 0) := by decide
            simp only [bm_M_finish, bp_s1e, if_pos e13, bm_M_finish_L21]
          have G : iG m (bp_sI (bp_sI (bp_sI (bp_sI m 0 4 (Int32.ofNat 0)) 0 5 ic) 0 6 (if v = 1 then 0 else 3)) 0 4 0) := ((((iG.rf m).s _ (by omega)).s _ (by omega)).s _ (by omega)).s _ (by omega)
          refine ⟨bp_sI c1 0 5 0, _, 0, Or.inl ⟨rfl, eu⟩, hcl _ hm2, ?_, ⟨?_, ?_, (jK_in hK F1 G).up (by omega)⟩, iFr F1 G⟩
          · simp [bp_s1]
          · simp [bp_s1]; exact m8.symm
          · intro _
            refine ⟨?_, ?_, ?_, ?_, 0, by omega, ?_, ?_, fun _ => rfl, fun hi1 => ⟨0, by omega, by omega, ?_⟩, fun i hi => absurd hi (by omega)⟩
            · rw [bp_s1o _ _ _ _ (by decide)]; exact k4
            · rw [bp_s1o _ _ _ _ (by decide), k5]; simp [bp_s1]
            · rw [bp_s1o _ _ _ _ (by decide), k5]; exact hicb
            · rw [bp_s1o _ _ _ _ (by decide), k3, hzz]; simp [bp_s1]
            · rw [bp_s1o _ _ _ _ (by decide), k1]; rfl
            · simp [bp_s1]
            · rw [bp_s1o _ _ _ _ (by decide), k5] at hi1
              have hv1' : v = 1 := by
                by_cases h : v = 1
                · exact h
                · rw [hic, if_neg h] at hi1; exact absurd hi1 (by decide)
              rw [bp_s1o _ _ _ _ (by decide), k3, hzz, if_pos hv1']; rfl
        · rw [if_neg h] at eu
          have e13 := bp_nl0 (show n' < 2147483648 by omega) h
          obtain ⟨m2, hm2⟩ : ∃ m2 : bp_M, m2 = bp_sI (bp_sI m 0 4 (Int32.ofNat n')) 0 7 (m.1 0 7 + 1) := ⟨_, rfl⟩
          have G2 : iG m m2 := by rw [hm2]; exact ((iG.rf m).s _ (by omega)).s _ (by omega)
          obtain ⟨c3, m3, q1, q2, q3, q4, q5, q6, q7⟩ := hW S n' (bp_sI c1 0 5 0) m2 hS (by omega) (by omega) (by rw [bp_s1o _ _ _ _ (by decide)]; exact k2) (by rw [hm2]; simp [bp_s1]) (fun i hi => by
            rw [bp_s1o _ _ _ _ (by decide), k15, hm2]
            have := n6 i (by omega)
            simpa [bp_s1] using this) (jK_in hK F1 G2)
          have hfin : bm_M_finish N (bp_sI m 0 4 (Int32.ofNat n')) = some m3 := by
            have e16 : (bp_sI m 0 4 (Int32.ofNat n')).1 0 7 = m.1 0 7 := bp_s1k _ _ _ _ (by decide)
            simp only [bm_M_finish, bp_s1e, if_neg e13, e16, bp_nM]
            rw [← hm2, q2]
            rfl
          have G3 : iG m3 (bp_sI (bp_sI (bp_sI m3 0 5 ic) 0 6 (if v = 1 then 0 else 3)) 0 4 0) := (((iG.rf m3).s _ (by omega)).s _ (by omega)).s _ (by omega)
          refine ⟨c3, _, 1, Or.inr ⟨rfl, bp_sI c1 0 5 0, eu, q1⟩, hcl _ hfin, ?_, ⟨?_, ?_, jK_in q4 (iF.rf c3) G3⟩, ?_⟩
          · simp [bp_s1]
            rw [q6 7 (by omega), hm2, bp_s1e]
          · simp [bp_s1]; exact q3
          · intro _
            refine ⟨?_, ?_, ?_, ?_, 0, by omega, ?_, ?_, fun _ => rfl, fun hi1 => ⟨0, by omega, by omega, ?_⟩, fun i hi => absurd hi (by omega)⟩
            · rw [q5, bp_s1o _ _ _ _ (by decide)]; exact k4
            · rw [q5, bp_s1o _ _ _ _ (by decide), k5]; simp [bp_s1]
            · rw [q5, bp_s1o _ _ _ _ (by decide), k5]; exact hicb
            · rw [q5, bp_s1o _ _ _ _ (by decide), k3, hzz]; simp [bp_s1]
            · rw [q5, bp_s1o _ _ _ _ (by decide), k1]; rfl
            · simp [bp_s1]
            · rw [q5, bp_s1o _ _ _ _ (by decide), k5] at hi1
              have hv1' : v = 1 := by
                by_cases h : v = 1
                · exact h
                · rw [hic, if_neg h] at hi1; exact absurd hi1 (by decide)
              rw [q5, bp_s1o _ _ _ _ (by decide), k3, hzz, if_pos hv1']; rfl
          · exact ((iFr F1 G2).tr q7).tr (iFr (iF.rf c3) G3)
    · -- a byte of the unit
      have ea : bc_UI_take N (Int32.ofNat v) c = bc_UI_take_L33 N (Int32.ofNat v) c := by
        by_cases hz : z = 2
        · subst hz
          have e3 : (3 : Int32) < Int32.ofNat v := (bp_lt (a := 3) (by omega) (by omega)).mpr (by omega)
          have ez : (Int32.ofNat 2 : Int32) = 2 := rfl
          simp only [bc_UI_take, hin, bp_10, not_false_iff, if_true, z3, ez, not_true, if_false, if_pos e3]
        · have ez : ¬ Int32.ofNat z = 2 := fun e => hz ((bp_eq (b := 2) (by omega) (by omega)).mp e)
          simp only [bc_UI_take, hin, bp_10, not_false_iff, if_true, z3, ez]
      have eb : bm_M_take N (Int32.ofNat v) m = bm_M_take_L80 N (Int32.ofNat v) m := by
        by_cases hz : z = 2
        · subst hz
          have e3 : (3 : Int32) < Int32.ofNat v := (bp_lt (a := 3) (by omega) (by omega)).mpr (by omega)
          have ez : (Int32.ofNat 2 : Int32) = 2 := rfl
          simp only [bm_M_take, mi, bp_10, not_false_iff, if_true, mz, ez, not_true, if_false, if_pos e3]
        · have ez : ¬ Int32.ofNat z = 2 := fun e => hz ((bp_eq (b := 2) (by omega) (by omega)).mp e)
          simp only [bm_M_take, mi, bp_10, not_false_iff, if_true, mz, ez]
      by_cases hfull : n = 320
      · subst hfull
        have F : iF c (bp_sI (bp_sI c 1 4 3) 0 5 3) := ((iF.rf c).s _ (by omega)).s _ (by omega)
        have G : iG m (bp_sI m 0 8 3) := (iG.rf m).s _ (by omega)
        have e1 : ¬ (Int32.ofNat 320 : Int32) < 320 := by decide
        have e2 : (Int32.ofNat 320 : Int32) = 320 := rfl
        refine ⟨bp_sI (bp_sI c 1 4 3) 0 5 3, bp_sI m 0 8 3, 0, Or.inl ⟨rfl, ?_⟩, ?_, ?_, ⟨?_, ?_, (jK_in hK F G).up (by omega)⟩, iFr F G⟩
        · simp only [bc_BP_unitEndsAt, h0, if_true, ea, bc_UI_take_L33, bc_UI_append, n2, if_neg e1, bp_nM, bp_cV, bp_cI, bp_g, true_or, bp_s1e]
        · rw [eb]
          simp only [bm_M_take_L80, n3, e2, not_true, if_false, bp_nM, bm_M_take_L136]
        · simp [bp_s1]
        · simp [bp_s1]
        · intro h
          simp [bp_s1] at h
      · have e1 : Int32.ofNat n < 320 := (bp_lt (b := 320) (by omega) (by omega)).mpr (by omega)
        have e2 : ¬ Int32.ofNat n = 320 := fun e => hfull ((bp_eq (b := 320) (by omega) (by omega)).mp e)
        have hin3 : vp_in (Int32.ofNat n) 320 := bp_in (by omega) (by omega)
        obtain ⟨zn, hzn⟩ : ∃ zn : Nat, zn = if v = 0 then z + 1 else 0 := ⟨_, rfl⟩
        have hz2 : zn ≤ 2 ∧ zn ≤ n + 1 := by rw [hzn]; split <;> omega
        have F : iF c (bp_sI (bp_sI (bp_sI (bp_sI c 15 n (Int32.ofNat v)) 1 1 (Int32.ofNat (n + 1))) 1 3 (Int32.ofNat zn)) 0 5 0) := ((((iF.rf c).s _ (by omega)).s _ (by omega)).s _ (by omega)).s _ (by omega)
        have G : iG m (bp_sI (bp_sI (bp_sI m 4 n (Int32.ofNat v)) 0 4 (Int32.ofNat (n + 1))) 0 6 (Int32.ofNat zn)) := (((iG.rf m).s _ (by omega)).s _ (by omega)).s _ (by omega)
        refine ⟨_, _, 0, Or.inl ⟨rfl, ?_⟩, ?_, ?_, ⟨?_, ?_, (jK_in hK F G).up (by omega)⟩, iFr F G⟩
        · have e5 : (bp_sI c 15 n (Int32.ofNat v)).1 1 1 = Int32.ofNat n := by rw [bp_s1o _ _ _ _ (by decide)]; exact n2
          have e6 : (bp_sI (bp_sI c 15 n (Int32.ofNat v)) 1 1 (Int32.ofNat (n + 1))).1 1 3 = Int32.ofNat z := by rw [bp_s1k _ _ _ _ (by decide), bp_s1o _ _ _ _ (by decide)]; exact z3
          have e7 : ∀ x, (bp_sI (bp_sI (bp_sI c 15 n (Int32.ofNat v)) 1 1 (Int32.ofNat (n + 1))) 1 3 x).1 1 4 = 0 := fun x => by simp [bp_s1]; exact i1
          have ec : bc_UI_append N (Int32.ofNat v) c = some (bp_sI (bp_sI (bp_sI c 15 n (Int32.ofNat v)) 1 1 (Int32.ofNat (n + 1))) 1 3 (Int32.ofNat zn)) := by
            simp only [bc_UI_append, n2, if_pos e1, bp_git hin3, bp_tn (show n < 2147483648 by omega), bp_nM, e5, bp_inc]
            by_cases h : v = 0
            · subst h
              have e8 : (Int32.ofNat 0 : Int32) = 0 := rfl
              rw [if_neg (fun hn => hn e8), e6, bp_inc, hzn, if_pos rfl]
              rfl
            · rw [if_pos (bp_ne0 (by omega) h), hzn, if_neg h]
              rfl
          simp only [bc_BP_unitEndsAt, h0, if_true, ea, bc_UI_take_L33, ec, bp_nM, bp_cV, bp_cI, bp_g, true_or, e7]
        · rw [eb]
          have e5 : (bp_sI m 4 n (Int32.ofNat v)).1 0 4 = Int32.ofNat n := by rw [bp_s1o _ _ _ _ (by decide)]; exact n3
          have e6 : (bp_sI (bp_sI m 4 n (Int32.ofNat v)) 0 4 (Int32.ofNat (n + 1))).1 0 6 = Int32.ofNat z := by rw [bp_s1k _ _ _ _ (by decide), bp_s1o _ _ _ _ (by decide)]; exact mz
          simp only [bm_M_take_L80, n3, e2, not_false_iff, if_true, bp_git hin3, bp_tn (show n < 2147483648 by omega), bp_nM, e5, bp_inc]
          by_cases h : v = 0
          · subst h
            have e8 : (Int32.ofNat 0 : Int32) = 0 := rfl
            rw [if_neg (fun hn => hn e8), e6, bp_inc, hzn, if_pos rfl]
            rfl
          · rw [if_pos (bp_ne0 (by omega) h), hzn, if_neg h]
            rfl
        · simp [bp_s1]
        · simp [bp_s1]; exact m8.symm
        · intro _
          refine ⟨?_, ?_, ?_, ?_, n + 1, by omega, ?_, ?_, fun h => ?_, fun h => ⟨zn, hz2.1, hz2.2, ?_⟩, fun i hi => ?_⟩
          · simp [bp_s1]; exact i1
          · simp [bp_s1]; exact i2
          · simp [bp_s1]; exact Or.inr hin
          · simp [bp_s1]
          · simp [bp_s1]
          · simp [bp_s1]
          · simp [bp_s1] at h; rw [hin] at h; exact absurd h (by decide)
          · simp [bp_s1]
          · by_cases he : i = n
            · subst he
              simp [bp_s1]
              exact ⟨v, by omega, by omega, rfl⟩
            · have := n6 i (by omega)
              simpa [bp_s1, he] using this

theorem jK_fr {S : Nat} {c m c1 m1 : bp_M} (h : jK S c m) (a : c1.2 = c.2) (fc : ∀ x, x ≠ 0 → x ≠ 6 → x ≠ 16 → ∀ y, c1.1 x y = c.1 x y) (b6 : c1.1 0 6 = m1.1 0 9) (g2 : ∀ x, x ≠ 0 → ∀ y, m1.1 x y = m.1 x y) (g3 : ∀ y, y ≠ 8 → y ≠ 9 → y ≠ 10 → y ≠ 11 → y ≠ 12 → m1.1 0 y = m.1 0 y) : jK S c1 m1 := by
  obtain ⟨h2, h4, h5, h6, h7, h8, h9, h10⟩ := h
  refine ⟨b6, jP_of h4 (fun y => fc 2 (by decide) (by decide) (by decide) y) (fun y hy => g3 y (by omega) (by omega) (by omega) (by omega) (by omega)), jT_of h5 (fun _ => by rw [a]) (fun _ => by rw [a]), jB_of h6 h5 (fun _ => by rw [a]) (fc 4 (by decide) (by decide) (by decide) 1) (fc 4 (by decide) (by decide) (by decide) 2) (fc 2 (by decide) (by decide) (by decide) 3) (fun o ho y => fc o (by omega) (by omega) (by omega) y) (g3 34 (by decide) (by decide) (by decide) (by decide) (by decide)) (g3 17 (by decide) (by decide) (by decide) (by decide) (by decide)) (fun o ho y => g2 o (by omega) y), ?_, jL_of h8 (fun _ => by rw [a]) (fun o ho y => fc o (by omega) (by omega) (by omega) y) (g3 32 (by decide) (by decide) (by decide) (by decide) (by decide)) (g3 33 (by decide) (by decide) (by decide) (by decide) (by decide)) (fun y => g2 12 (by decide) y), jW_of h9 (fc 5 (by decide) (by decide) (by decide) 2) (fun y => fc 22 (by decide) (by decide) (by decide) y) (fun y => fc 23 (by decide) (by decide) (by decide) y) (g3 44 (by decide) (by decide) (by decide) (by decide) (by decide)) (fun y => g2 19 (by decide) y) (fun y => g2 20 (by decide) y), jC_of h10 (fun o ho y => g2 o (by omega) y)⟩
  unfold jSS at h7 ⊢
  simp only [fc 4 (by decide) (by decide) (by decide), fc 21 (by decide) (by decide) (by decide), fc 20 (by decide) (by decide) (by decide), g3 39 (by decide) (by decide) (by decide) (by decide) (by decide), g2 17 (by decide), g2 18 (by decide)]
  exact h7
/-- owed: a picture unit whose data have an end -/
def lw_Pict (N : Nat) : Prop := ∀ (S d : Nat) (c m : bp_M) (key rank : Int32), S ≤ 3000000 → (key = 0 ∨ key = 1) → jr 0 3 rank → bE d c m → jK S c m → c.1 6 1 = 8 → c.1 6 3 = 0 → m.1 0 11 = 0 → m.1 0 12 = 0 → ∃ c1 m1, bc_BP_takePicture N key rank c = some c1 ∧ bm_M_picture N key rank m = some m1 ∧ c1.1 6 3 = m1.1 0 12 ∧ jK (S + 10) c1 m1 ∧ (∀ y, c1.1 0 y = c.1 0 y) ∧ (∀ y, c1.1 1 y = c.1 1 y) ∧ (∀ y, 4 ≤ y ∧ y ≤ 9 → m1.1 0 y = m.1 0 y) ∧ jFr c m c1 m1
/-- owed: the class's takePicture where a failure stands -/
def lw_PictF (N : Nat) : Prop := ∀ (S : Nat) (c m : bp_M) (key rank : Int32), ¬ c.1 6 3 = 0 → jK S c m → ∃ c1, bc_BP_takePicture N key rank c = some c1 ∧ c1.1 6 3 = c.1 6 3 ∧ jK S c1 m ∧ (∀ y, c1.1 0 y = c.1 0 y) ∧ (∀ y, c1.1 1 y = c.1 1 y) ∧ jFr c m c1 m
/-- the end of the work: fault and units -/
theorem w_fin (N : Nat) {S : Nat} {c m : bp_M} (hf : c.1 6 3 = m.1 0 12) (hK : jK S c m) : ∃ c1 m1, bc_BP_workThrough_L109 N c = some c1 ∧ bm_M_work_L202 N m = some m1 ∧ c1.1 0 5 = m1.1 0 8 ∧ jK S c1 m1 ∧ (∀ y, c1.1 1 y = c.1 1 y) ∧ (∀ y, 4 ≤ y ∧ y ≤ 7 → m1.1 0 y = m.1 0 y) ∧ jFr c m c1 m1 := by
  have hu := hK.1
  by_cases h0 : m.1 0 12 = 0
  · have c0 : c.1 6 3 = 0 := hf.trans h0
    have e1 : (bp_sI c 0 5 0).1 0 6 = c.1 0 6 := bp_s1k _ _ _ _ (by decide)
    have e2 : (bp_sI m 0 9 (m.1 0 9 + 1)).1 0 12 = 0 := by rw [bp_s1k _ _ _ _ (by decide)]; exact h0
    refine ⟨bp_sI (bp_sI c 0 5 0) 0 6 (c.1 0 6 + 1), bp_sI (bp_sI m 0 9 (m.1 0 9 + 1)) 0 8 0, ?_, ?_, ?_, jK_fr hK rfl (fun x a _ _ y => ?_) ?_ (fun x a y => ?_) (fun y a b _ _ _ => ?_), fun y => ?_, fun y hy => ?_, ⟨fun y => ?_, fun y => ?_, ?_, fun y => ?_⟩⟩
    · simp only [bc_BP_workThrough_L109, c0, bp_nM, bp_s1e, not_true, if_false, e1, bc_BP_workThrough_L134]
    · simp only [bm_M_work_L202, h0, not_true, if_false, bp_nM, bm_M_work_L219, e2]
    · rw [bp_s1k _ _ _ _ (by decide), bp_s1e, bp_s1e]
    · rw [bp_s1o _ _ _ _ a, bp_s1o _ _ _ _ a]
    · rw [bp_s1e, bp_s1k _ _ _ _ (by decide), bp_s1e, hu]
    · rw [bp_s1o _ _ _ _ a, bp_s1o _ _ _ _ a]
    · rw [bp_s1k _ _ _ _ a, bp_s1k _ _ _ _ b]
    · rw [bp_s1o _ _ _ _ (by decide), bp_s1o _ _ _ _ (by decide)]
    · rw [bp_s1k _ _ _ _ (by omega), bp_s1k _ _ _ _ (by omega)]
    · rw [bp_s1o _ _ _ _ (by decide), bp_s1o _ _ _ _ (by decide)]
    · rw [bp_s1o _ _ _ _ (by decide), bp_s1o _ _ _ _ (by decide)]
    · rw [bp_s1k _ _ _ _ (by decide), bp_s1k _ _ _ _ (by decide)]
    · rw [bp_s1o _ _ _ _ (by decide), bp_s1o _ _ _ _ (by decide)]
  · have c0 : ¬ c.1 6 3 = 0 := by rw [hf]; exact h0
    refine ⟨bp_sI c 0 5 (c.1 6 3), bp_sI m 0 8 (m.1 0 12), ?_, ?_, ?_, jK_fr hK rfl (fun x a _ _ y => bp_s1o _ _ _ _ a y) ?_ (fun x a y => bp_s1o _ _ _ _ a y) (fun y a _ _ _ _ => bp_s1k _ _ _ _ a), fun y => bp_s1o _ _ _ _ (by decide) y, fun y hy => bp_s1k _ _ _ _ (by omega), ⟨fun y => bp_s1o _ _ _ _ (by decide) y, fun y => bp_s1o _ _ _ _ (by decide) y, bp_s1k _ _ _ _ (by decide), fun y => bp_s1o _ _ _ _ (by decide) y⟩⟩
    · simp only [bc_BP_workThrough_L109, bp_nM, bp_s1e, c0, not_false_iff, if_true, bc_BP_workThrough_L134]
    · simp only [bm_M_work_L202, h0, not_false_iff, if_true, bm_M_work_L219, bp_nM]
    · rw [bp_s1e, bp_s1e, hf]
    · rw [bp_s1k _ _ _ _ (by decide), bp_s1k _ _ _ _ (by decide)]; exact hu

/-- the row of references and the decoder's own numbers are no part of the relation -/
theorem jK_39 {S : Nat} {c m c1 : bp_M} (h : jK S c m) (a : ∀ x, x ≠ 39 → ∀ y, c1.2 x y = c.2 x y) (a39 : ∀ i, i < 4 → isPI (c1.2 39 i)) (fc : ∀ x, x ≠ 3 → ∀ y, c1.1 x y = c.1 x y) : jK S c1 m := by
  obtain ⟨h2, h4, h5, h6, h7, h8, h9, h10⟩ := h
  have e40 : ∀ y, c1.2 40 y = c.2 40 y := fun y => a 40 (by decide) y
  refine ⟨by rw [fc 0 (by decide)]; exact h2, jP_of h4 (fun y => fc 2 (by decide) y) (fun _ _ => rfl), ?_, jB_of h6 h5 e40 (fc 4 (by decide) 1) (fc 4 (by decide) 2) (fc 2 (by decide) 3) (fun o ho y => fc o (by omega) y) rfl rfl (fun _ _ _ => rfl), ?_, jL_of h8 (fun y => a 3 (by decide) y) (fun o ho y => fc o (by omega) y) rfl rfl (fun _ => rfl), jW_of h9 (fc 5 (by decide) 2) (fun y => fc 22 (by decide) y) (fun y => fc 23 (by decide) y) rfl (fun _ => rfl) (fun _ => rfl), h10⟩
  · obtain ⟨t1, t2, -⟩ := h5
    refine ⟨fun k hk => by rw [e40]; exact t1 k hk, fun i hi j hj e => t2 i hi j hj (by rw [e40, e40] at e; exact e), a39⟩
  · unfold jSS at h7 ⊢
    simp only [fc 4 (by decide), fc 21 (by decide), fc 20 (by decide)]
    exact h7
theorem w_pictF (N : Nat) (hN : 4000 ≤ N) : lw_PictF N := by
  intro S c m key rank hf hK
  obtain ⟨-, -, hT, ⟨h, h4, h1, h2, -, hQ⟩, -⟩ := id hK
  have pi : ∀ i, i < 4 → isPI (c.2 40 i) := fun i hi => by have := hT.1 i hi; exact ⟨by omega, by omega⟩
  obtain ⟨c1, q1, q2, q3, q4, q5, q6⟩ := l_refs N (h := h) (m := m) h N 0 c (by omega) (by omega) (Nat.le_refl h) h4 (fun i hi => (hQ i hi).2.2.1) pi hT.2.2
  have e1 : bc_PB_listReferences N c = some (Int32.ofNat (0 + (rl m h).length), c1) := by
    simp only [bc_PB_listReferences, h1, bp_nI, bp_sub1]
    exact q1
  obtain ⟨z, hz⟩ : ∃ z : Int32, z = Int32.ofNat (0 + (rl m h).length) := ⟨_, rfl⟩
  rw [← hz] at e1
  have f3 : (bp_sI c1 3 4 z).1 6 3 = c.1 6 3 := by rw [bp_s1o _ _ _ _ (by decide), q2]
  have hf3 : ¬ (bp_sI c1 3 4 z).1 6 3 = 0 := by rw [f3]; exact hf
  have e82 : bc_BP_takePicture_L82 N key rank (bp_sI c1 3 4 z) = some (bp_sI c1 3 4 z) := by
    simp only [bc_BP_takePicture_L82, hf3, not_false_iff, if_true, bc_BP_takePicture_L118, if_false]
  have ef : ∀ a : Int32, bc_BR_fail N a (bp_sI c1 3 4 z) = some (bp_sI c1 3 4 z) := fun a => by
    simp only [bc_BR_fail, hf3, not_false_iff, if_true, bc_BR_fail_L12]
  have e62 : bc_BP_takePicture_L62 N key rank (bp_sI c1 3 4 z) = some (bp_sI c1 3 4 z) := by
    simp only [bc_BP_takePicture_L62, ef, bp_cV, e82]
    split
    · rfl
    · split <;> rfl
  have fc : ∀ x, x ≠ 3 → ∀ y, (bp_sI c1 3 4 z).1 x y = c.1 x y := fun x hx y => by rw [bp_s1o _ _ _ _ hx, q2]
  refine ⟨bp_sI c1 3 4 z, ?_, f3, jK_39 hK (fun x hx y => q3 x hx y) q6 fc, fun y => fc 0 (by decide) y, fun y => fc 1 (by decide) y, ⟨fun y => fc 5 (by decide) y, fun y => fc 23 (by decide) y, rfl, fun _ => rfl⟩⟩
  simp only [bc_BP_takePicture, e1, bp_cI, bp_nM, e62, ef, bp_cV, e82]
  split
  · rfl
  · split
    · rfl
    · split <;> rfl

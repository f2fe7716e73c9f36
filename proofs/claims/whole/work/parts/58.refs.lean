/-- the references among the first k pictures, by latest first: their places -/
def rl (m : bp_M) : Nat → List Nat
  | 0 => []
  | k + 1 => if m.1 15 k = 0 then rl m k else k :: rl m k
theorem rl_len (m : bp_M) : ∀ k, (rl m k).length ≤ k
  | 0 => Nat.le_refl 0
  | k + 1 => by
    have := rl_len m k
    unfold rl
    split
    · omega
    · simp only [List.length_cons]; omega
theorem l_refs (N : Nat) {h : Nat} {m : bp_M} : ∀ (k n f : Nat) (c : bp_M), k < n → f + k ≤ 4 → k ≤ h → h ≤ 4 → (∀ i, i < h → c.1 (c.2 40 i) 2 = m.1 15 i) → (∀ i, i < 4 → isPI (c.2 40 i)) → (∀ i, i < 4 → isPI (c.2 39 i)) → ∃ c1, bc_PB_listReferences_L9 N n (Int32.ofNat f) (Int32.ofNat k + (-1)) c = some (Int32.ofNat (f + (rl m k).length), c1) ∧ c1.1 = c.1 ∧ (∀ x, x ≠ 39 → ∀ y, c1.2 x y = c.2 x y) ∧ (∀ j, j < f → c1.2 39 j = c.2 39 j) ∧ (∀ j i, (rl m k)[j]? = some i → c1.2 39 (f + j) = c.2 40 i) ∧ (∀ i, i < 4 → isPI (c1.2 39 i)) := by
  intro k
  induction k with
  | zero =>
    intro n f c hn hf _ h4 hr hp hq
    obtain ⟨n, rfl⟩ := Nat.exists_eq_succ_of_ne_zero (by omega : n ≠ 0)
    have e0 : Int32.ofNat 0 + (-1) < 0 := by decide
    refine ⟨c, ?_, rfl, fun _ _ _ => rfl, fun _ _ => rfl, fun j i hj => by simp [rl] at hj, hq⟩
    rw [bc_PB_listReferences_L9, if_pos e0]
    rfl
  | succ k ih =>
    intro n f c hn hf hk h4 hr hp hq
    obtain ⟨n, rfl⟩ := Nat.exists_eq_succ_of_ne_zero (by omega : n ≠ 0)
    have i4 : vp_in (Int32.ofNat k) 4 := bp_in (by omega) (by omega)
    have tk := bp_tn (show k < 2147483648 by omega)
    have hkr := hr k (by omega)
    by_cases hz : m.1 15 k = 0
    · have er : rl m (k + 1) = rl m k := by rw [rl, if_pos hz]
      obtain ⟨c1, q1, q2⟩ := ih n f c (by omega) (by omega) (by omega) h4 hr hp hq
      refine ⟨c1, ?_, by rw [er]; exact q2⟩
      rw [bc_PB_listReferences_L9, bp_dec, if_neg (bp_nneg (by omega)), er]
      simp only [bp_git i4, tk, bp_nN, bp_gt (hp k (by omega)), hkr, hz, if_true, bc_PB_listReferences_L37, bp_nI]
      exact q1
    · have er : rl m (k + 1) = k :: rl m k := by rw [rl, if_neg hz]
      have f4 : vp_in (Int32.ofNat f) 4 := bp_in (by omega) (by omega)
      have tf := bp_tn (show f < 2147483648 by omega)
      have e40 : ∀ y, (bp_sR c 39 f (c.2 40 k)).2 40 y = c.2 40 y := fun y => by rw [bp_r2, if_neg (fun e => by have := e.1; omega)]
      obtain ⟨c1, q1, q2, q3, q4, q5, q6⟩ := ih n (f + 1) (bp_sR c 39 f (c.2 40 k)) (by omega) (by omega) (by omega) h4 (fun i hi => by rw [e40]; exact hr i hi) (fun i hi => by rw [e40]; exact hp i hi) (fun i hi => by
        rw [bp_r2]
        split
        · exact hp k (by omega)
        · exact hq i hi)
      refine ⟨c1, ?_, q2, fun x hx y => by rw [q3 x hx, bp_r2, if_neg (fun e => hx e.1)], fun j hj => by rw [q4 j (by omega), bp_r2, if_neg (fun e => by have := e.2; omega)], fun j i hj => ?_, q6⟩
      · rw [bc_PB_listReferences_L9, bp_dec, if_neg (bp_nneg (by omega)), er]
        simp only [bp_git i4, tk, bp_nN, bp_gt (hp k (by omega)), hkr, hz, if_false, bp_git f4, tf, bp_nM, bp_nI, bp_inc, bc_PB_listReferences_L37, List.length_cons]
        rw [q1, show f + 1 + (rl m k).length = f + ((rl m k).length + 1) by omega]
      · rw [er] at hj
        cases j with
        | zero =>
          have hi : k = i := by simpa using hj
          subst hi
          rw [q4 _ (by omega), bp_r2, if_pos ⟨rfl, rfl⟩]
        | succ j =>
          have hj2 : (rl m k)[j]? = some i := by simpa using hj
          rw [show f + (j + 1) = f + 1 + j by omega, q5 j i hj2, e40]

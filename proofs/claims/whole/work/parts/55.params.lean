theorem bp_n60 : ¬ (6 : Int32) = 0 := by decide
theorem n_end (N : Nat) {d : Nat} {c m : bp_M} (h : bE d c m) {P Q f : Int32} (hs : rS d P Q f) : ∃ f1, bc_BR_needEnd N (cb c P f) = some (cb c P f1) ∧ bm_M_toEnd N (mb m Q f) = some (mb m Q f1) ∧ (¬ f = 0 → f1 = f) ∧ (f1 = 0 → f = 0) := by
  obtain ⟨h1, h2, h3, h4⟩ := id h
  by_cases hf : f = 0
  · subst hf
    obtain ⟨p, hp, rfl, rfl⟩ := hs rfl
    by_cases hpd : p < d
    · have e1 : ¬ Int32.ofNat (d + 8) ≤ Int32.ofNat (p + 8) := fun e => by have := (bp_le (by omega) (by omega)).mp e; omega
      have e2 : ¬ Int32.ofNat d ≤ Int32.ofNat p := fun e => by have := (bp_le (by omega) (by omega)).mp e; omega
      refine ⟨6, ?_, ?_, fun hn => absurd rfl hn, fun hn => absurd hn bp_n60⟩
      · simp only [bc_BR_needEnd, cb_2, cb_1, h2, if_neg e1, c_fail, if_true, bp_cV, bc_BR_needEnd_L17]
      · simp only [bm_M_toEnd, mb_12, not_true, if_false, mb_11, mb_k _ _ _ (show (10 : Nat) ≠ 11 by decide) (show (10 : Nat) ≠ 12 by decide), h3, if_neg e2, bp_nM, mb_f, bm_M_toEnd_L24]
    · have e1 : Int32.ofNat (d + 8) ≤ Int32.ofNat (p + 8) := (bp_le (by omega) (by omega)).mpr (by omega)
      have e2 : Int32.ofNat d ≤ Int32.ofNat p := (bp_le (by omega) (by omega)).mpr (by omega)
      refine ⟨0, ?_, ?_, fun hn => absurd rfl hn, fun _ => rfl⟩
      · simp only [bc_BR_needEnd, cb_2, cb_1, h2, if_pos e1, bc_BR_needEnd_L17]
      · simp only [bm_M_toEnd, mb_12, not_true, if_false, mb_11, mb_k _ _ _ (show (10 : Nat) ≠ 11 by decide) (show (10 : Nat) ≠ 12 by decide), h3, if_pos e2, bm_M_toEnd_L24]
  · refine ⟨f, ?_, ?_, fun _ => rfl, fun hn => hn⟩
    · simp only [bc_BR_needEnd, c_fail, if_neg hf, bp_cV, bc_BR_needEnd_L17]
      split <;> rfl
    · simp only [bm_M_toEnd, mb_12, hf, not_false_iff, if_true, bm_M_toEnd_L24]
/-- the reader's cells are no part of the relation -/
theorem jK_b {S : Nat} {c m : bp_M} (h : jK S c m) (P f Q g : Int32) : jK S (cb c P f) (mb m Q g) := by
  obtain ⟨h2, h4, h5, h6, h7, h8, h9, h10⟩ := h
  have fc : ∀ x, x ≠ 6 → ∀ y, (cb c P f).1 x y = c.1 x y := fun x hx y => cb_o c P f hx y
  have g2 : ∀ x, x ≠ 0 → ∀ y, (mb m Q g).1 x y = m.1 x y := fun x hx y => mb_o m Q g hx y
  have g3 : ∀ y, y ≠ 11 → y ≠ 12 → (mb m Q g).1 0 y = m.1 0 y := fun y a b => mb_k m Q g a b
  refine ⟨?_, jP_of h4 (fun y => fc 2 (by decide) y) (fun y hy => g3 y (by omega) (by omega)), jT_of h5 (fun _ => rfl) (fun _ => rfl), jB_of h6 h5 (fun _ => rfl) (fc 4 (by decide) 1) (fc 4 (by decide) 2) (fc 2 (by decide) 3) (fun o ho y => fc o (by omega) y) (g3 34 (by decide) (by decide)) (g3 17 (by decide) (by decide)) (fun o ho y => g2 o (by omega) y), ?_, jL_of h8 (fun _ => rfl) (fun o ho y => fc o (by omega) y) (g3 32 (by decide) (by decide)) (g3 33 (by decide) (by decide)) (fun y => g2 12 (by decide) y), jW_of h9 (fc 5 (by decide) 2) (fun y => fc 22 (by decide) y) (fun y => fc 23 (by decide) y) (g3 44 (by decide) (by decide)) (fun y => g2 19 (by decide) y) (fun y => g2 20 (by decide) y), jC_of h10 (fun o ho y => g2 o (by omega) y)⟩
  · rw [fc 0 (by decide), g3 9 (by decide) (by decide)]; exact h2
  · unfold jSS at h7 ⊢
    simp only [fc 4 (by decide), fc 21 (by decide), fc 20 (by decide), g3 39 (by decide) (by decide), g2 17 (by decide), g2 18 (by decide)]
    exact h7
abbrev pc (c : bp_M) (a b : Int32) : bp_M := bp_sI (bp_sI (bp_sI c 2 0 1) 2 1 a) 2 2 b
abbrev pm (m : bp_M) (a b : Int32) : bp_M := bp_sI (bp_sI (bp_sI m 0 13 1) 0 14 a) 0 15 b
theorem jK_p {S : Nat} {c m : bp_M} (h : jK S c m) {a b : Int32} (ha : jr 1 4 a) (hb : jr 0 11 b) : jK S (pc c a b) (pm m a b) := by
  obtain ⟨h2, h4, h5, h6, h7, h8, h9, h10⟩ := h
  have fc : ∀ x, x ≠ 2 → ∀ y, (pc c a b).1 x y = c.1 x y := fun x hx y => by rw [bp_s1o _ _ _ _ hx, bp_s1o _ _ _ _ hx, bp_s1o _ _ _ _ hx]
  have f2 : ∀ y, y ≠ 0 → y ≠ 1 → y ≠ 2 → (pc c a b).1 2 y = c.1 2 y := fun y a b d => by rw [bp_s1k _ _ _ _ d, bp_s1k _ _ _ _ b, bp_s1k _ _ _ _ a]
  have g2 : ∀ x, x ≠ 0 → ∀ y, (pm m a b).1 x y = m.1 x y := fun x hx y => by rw [bp_s1o _ _ _ _ hx, bp_s1o _ _ _ _ hx, bp_s1o _ _ _ _ hx]
  have g3 : ∀ y, y ≠ 13 → y ≠ 14 → y ≠ 15 → (pm m a b).1 0 y = m.1 0 y := fun y a b d => by rw [bp_s1k _ _ _ _ d, bp_s1k _ _ _ _ b, bp_s1k _ _ _ _ a]
  obtain ⟨p1, p2, p3, p4, p5, p6, p7, p8, p9, p10, p11⟩ := h4
  have c0 : (pc c a b).1 2 0 = 1 := by simp [bp_s1]
  have c1 : (pc c a b).1 2 1 = a := by simp [bp_s1]
  have c2 : (pc c a b).1 2 2 = b := by simp [bp_s1]
  have m0 : (pm m a b).1 0 13 = 1 := by simp [bp_s1]
  have m1 : (pm m a b).1 0 14 = a := by simp [bp_s1]
  have m2 : (pm m a b).1 0 15 = b := by simp [bp_s1]
  refine ⟨?_, ⟨by rw [c0, m0], by rw [c1, m1], by rw [c2, m2], ?_, ?_, ?_, by rw [c0]; exact Or.inr rfl, ?_, fun _ => by rw [c1, c2]; exact ⟨ha, hb⟩, ?_, ?_⟩, jT_of h5 (fun _ => rfl) (fun _ => rfl), jB_of h6 h5 (fun _ => rfl) (fc 4 (by decide) 1) (fc 4 (by decide) 2) (f2 3 (by decide) (by decide) (by decide)) (fun o ho y => fc o (by omega) y) (g3 34 (by decide) (by decide) (by decide)) (g3 17 (by decide) (by decide) (by decide)) (fun o ho y => g2 o (by omega) y), ?_, jL_of h8 (fun _ => rfl) (fun o ho y => fc o (by omega) y) (g3 32 (by decide) (by decide) (by decide)) (g3 33 (by decide) (by decide) (by decide)) (fun y => g2 12 (by decide) y), jW_of h9 (fc 5 (by decide) 2) (fun y => fc 22 (by decide) y) (fun y => fc 23 (by decide) y) (g3 44 (by decide) (by decide) (by decide)) (fun y => g2 19 (by decide) y) (fun y => g2 20 (by decide) y), jC_of h10 (fun o ho y => g2 o (by omega) y)⟩
  · rw [fc 0 (by decide), g3 9 (by decide) (by decide) (by decide)]; exact h2
  · rw [f2 3 (by decide) (by decide) (by decide), g3 16 (by decide) (by decide) (by decide)]; exact p4
  · rw [f2 4 (by decide) (by decide) (by decide), g3 17 (by decide) (by decide) (by decide)]; exact p5
  · rw [f2 5 (by decide) (by decide) (by decide), g3 18 (by decide) (by decide) (by decide)]; exact p6
  · rw [f2 3 (by decide) (by decide) (by decide)]; exact p8
  · rw [f2 3 (by decide) (by decide) (by decide), f2 4 (by decide) (by decide) (by decide)]; exact p10
  · rw [f2 5 (by decide) (by decide) (by decide)]; exact p11
  · unfold jSS at h7 ⊢
    simp only [fc 4 (by decide), fc 21 (by decide), fc 20 (by decide), g3 39 (by decide) (by decide) (by decide), g2 17 (by decide), g2 18 (by decide)]
    exact h7
theorem n_par (N : Nat) (hN : 4000 ≤ N) {S d : Nat} {c m : bp_M} (h : bE d c m) {P Q f : Int32} (hs : rS d P Q f) (hK : jK S c m) : ∃ c1 m1 f1, bc_PA_readPending N (cb c P f) = some c1 ∧ bm_M_parameters N (mb m Q f) = some m1 ∧ c1.1 6 3 = f1 ∧ m1.1 0 12 = f1 ∧ (¬ f = 0 → f1 = f) ∧ jK S c1 m1 ∧ c1.2 = c.2 ∧ (∀ x, x ≠ 6 → x ≠ 2 → ∀ y, c1.1 x y = c.1 x y) ∧ (∀ x, x ≠ 0 → ∀ y, m1.1 x y = m.1 x y) ∧ (∀ y, ¬ (11 ≤ y ∧ y ≤ 15) → m1.1 0 y = m.1 0 y) := by
  obtain ⟨v1, P1, Q1, f1, q1, q2, q3, q4, q5, q6, w1, q7, q8⟩ := n_rel N hN 3 5 bp_n50 h hs
  obtain ⟨v2, P2, Q2, f2, p1, p2, p3, p4, p5, p6, w2, p7, p8⟩ := n_rel N hN 11 5 bp_n50 h q3
  obtain ⟨f3, r1, r2, r3, r4⟩ := n_end N h p3
  have e1 : bc_PA_readPending N (cb c P f) = if ¬ f3 = 0 then some (cb c P2 f3) else some (pc (cb c P2 f3) (v1 + 1) v2) := by
    simp only [bc_PA_readPending, q1, bp_cI, bp_nI, p1, r1, bp_cV, cb_3, bc_PA_readPending_L43, bp_g, or_true, if_true, bp_nM]
  have e2 : bm_M_parameters N (mb m Q f) = if ¬ f3 = 0 then some (mb m Q2 f3) else some (pm (mb m Q2 f3) (v1 + 1) v2) := by
    simp only [bm_M_parameters, q2, bp_cI, p2, r2, bp_cV, mb_12, bm_M_parameters_L43, bp_g, or_true, if_true, bp_nM]
  have hff : ¬ f = 0 → f3 = f := fun hf => by
    have a := q4 hf
    have b := p4 (by rw [a]; exact hf)
    rw [r3 (by rw [b, a]; exact hf), b, a]
  by_cases h3 : f3 = 0
  · have z2 := r4 h3
    have z1 : f1 = 0 := by
      by_cases hz : f1 = 0
      · exact hz
      · exact absurd (z2.symm.trans (p4 hz)).symm hz
    have ha : jr 1 4 (v1 + 1) := by
      have := q6 z1
      rw [q8] at this ⊢
      have hw := (bp_le (b := 3) (by omega) (by omega)).mp this
      exact ⟨w1 + 1, by omega, by omega, by rw [bp_inc]⟩
    have hb : jr 0 11 v2 := by
      have := p6 z2
      rw [p8] at this ⊢
      have hw := (bp_le (b := 11) (by omega) (by omega)).mp this
      exact ⟨w2, by omega, by omega, rfl⟩
    rw [if_neg (fun hn => hn h3)] at e1 e2
    refine ⟨_, _, f3, e1, e2, ?_, ?_, hff, jK_p (jK_b hK P2 f3 Q2 f3) ha hb, rfl, fun x a b y => ?_, fun x a y => ?_, fun y hy => ?_⟩
    · rw [bp_s1o _ _ _ _ (by decide), bp_s1o _ _ _ _ (by decide), bp_s1o _ _ _ _ (by decide), cb_3]
    · rw [bp_s1k _ _ _ _ (by decide), bp_s1k _ _ _ _ (by decide), bp_s1k _ _ _ _ (by decide), mb_12]
    · rw [bp_s1o _ _ _ _ b, bp_s1o _ _ _ _ b, bp_s1o _ _ _ _ b, cb_o _ _ _ a]
    · rw [bp_s1o _ _ _ _ a, bp_s1o _ _ _ _ a, bp_s1o _ _ _ _ a, mb_o _ _ _ a]
    · rw [bp_s1k _ _ _ _ (by omega), bp_s1k _ _ _ _ (by omega), bp_s1k _ _ _ _ (by omega), mb_k _ _ _ (by omega) (by omega)]
  · rw [if_pos h3] at e1 e2
    exact ⟨_, _, f3, e1, e2, cb_3 _ _ _, mb_12 _ _ _, hff, jK_b hK P2 f3 Q2 f3, rfl, fun x a b y => cb_o _ _ _ a y, fun x a y => mb_o _ _ _ a y, fun y hy => mb_k _ _ _ (by omega) (by omega)⟩

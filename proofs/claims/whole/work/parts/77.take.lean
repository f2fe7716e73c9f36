/-! A picture taken into the buffer: the parts of the loop. -/
theorem m_firsts (N : Nat) {h : Nat} (h4 : h ≤ 4) {m : bp_M} (hm : m.1 0 34 = Int32.ofNat h) : ∀ (j k w : Nat) (x : Int32), k + j = h → j < w → ((x = -1 ∧ ∀ i, i < k → m.1 16 i = 0) ∨ ∃ b : Nat, b < k ∧ x = Int32.ofNat b ∧ ¬ m.1 16 b = 0) → ∃ r, bm_M_first_L4 N w x (Int32.ofNat k) m = some (r, m) ∧ ((r = -1 ∧ ∀ i, i < h → m.1 16 i = 0) ∨ ∃ b : Nat, b < h ∧ r = Int32.ofNat b ∧ ¬ m.1 16 b = 0) := by
  intro j
  induction j with
  | zero =>
    intro k w x hk hw hx
    obtain ⟨w, rfl⟩ := Nat.exists_eq_succ_of_ne_zero (by omega : w ≠ 0)
    obtain rfl : k = h := by omega
    have e : Int32.ofNat k ≤ Int32.ofNat k := (bp_le (by omega) (by omega)).mpr (by omega)
    refine ⟨x, ?_, hx⟩
    rw [bm_M_first_L4, hm, if_pos e]
    rfl
  | succ j ih =>
    intro k w x hk hw hx
    obtain ⟨w, rfl⟩ := Nat.exists_eq_succ_of_ne_zero (by omega : w ≠ 0)
    have e : ¬ Int32.ofNat h ≤ Int32.ofNat k := fun e => by have := (bp_le (by omega) (by omega)).mp e; omega
    have k4 : vp_in (Int32.ofNat k) 4 := bp_in (by omega) (by omega)
    have tk : (Int32.ofNat k).toNatClampNeg = k := bp_tn (by omega)
    rw [bm_M_first_L4, hm, if_neg e, bp_git k4, tk]
    by_cases hz : m.1 16 k = 0
    · rw [if_pos hz]
      simp only [bm_M_first_L42, bp_nI, bp_inc]
      refine ih (k + 1) w x (by omega) (by omega) ?_
      rcases hx with ⟨h1, h2⟩ | ⟨b, h1, h2, h3⟩
      · exact Or.inl ⟨h1, fun i hi => by
          by_cases he : i = k
          · subst he; exact hz
          · exact h2 i (by omega)⟩
      · exact Or.inr ⟨b, by omega, h2, h3⟩
    · rw [if_neg hz]
      have take := ih (k + 1) w (Int32.ofNat k) (by omega) (by omega) (Or.inr ⟨k, by omega, rfl, hz⟩)
      rcases hx with ⟨h1, h2⟩ | ⟨b, h1, h2, h3⟩
      · subst h1
        rw [if_pos (by decide)]
        simp only [bm_M_first_L40, bm_M_first_L42, bp_nI, bp_inc]
        exact take
      · subst h2
        have b4 : vp_in (Int32.ofNat b) 4 := bp_in (by omega) (by omega)
        rw [if_neg (bp_nneg (by omega)), bp_git k4, bp_git b4]
        split
        · simp only [bm_M_first_L42, bp_nI, bp_inc]
          exact ih (k + 1) w (Int32.ofNat b) (by omega) (by omega) (Or.inr ⟨b, by omega, rfl, h3⟩)
        · simp only [bm_M_first_L40, bm_M_first_L42, bp_nI, bp_inc]
          exact take
theorem m_firstS (N : Nat) (hN : 4000 ≤ N) {h : Nat} (h4 : h ≤ 4) {m : bp_M} (hm : m.1 0 34 = Int32.ofNat h) : ∃ r, bm_M_first N m = some (r, m) ∧ ((r = -1 ∧ ∀ i, i < h → m.1 16 i = 0) ∨ ∃ b : Nat, b < h ∧ r = Int32.ofNat b ∧ ¬ m.1 16 b = 0) := m_firsts N h4 hm h 0 N (-1) (by omega) (by omega) (Or.inl ⟨rfl, fun i hi => by omega⟩)
theorem wq_0 {m : bp_M} : ∀ h, (∀ i, i < h → m.1 16 i = 0) → wq m h = 0
  | 0, _ => rfl
  | h + 1, g => by rw [wq, wq_0 h (fun i hi => g i (by omega)), if_pos (g h (by omega))]
theorem wq_p {m : bp_M} : ∀ h b, b < h → ¬ m.1 16 b = 0 → 1 ≤ wq m h
  | 0, b, hb, _ => by omega
  | h + 1, b, hb, g => by
    rw [wq]
    by_cases he : b = h
    · subst he; rw [if_neg g]; omega
    · have := wq_p h b (by omega) g; omega
theorem wq_d {m m1 : bp_M} {b : Nat} (g : ¬ m.1 16 b = 0) (e : ∀ y, m1.1 16 y = if y = b then 0 else m.1 16 y) : ∀ h, b < h → wq m1 h + 1 = wq m h
  | 0, hb => by omega
  | h + 1, hb => by
    rw [wq, wq, e h]
    by_cases he : b = h
    · subst he
      rw [if_pos rfl, if_pos rfl, if_neg g, wq_e (m := m) b (fun y hy => by rw [e, if_neg (by omega)])]
    · have := wq_d g e h (by omega)
      rw [if_neg (show ¬ h = b from fun x => he x.symm)]
      omega
theorem wq_c {m : bp_M} : ∀ h, (∀ i, i < h → ¬ (m.1 15 i = 0 ∧ m.1 16 i = 0)) → h ≤ (rl m h).length + wq m h
  | 0, _ => by omega
  | h + 1, g => by
    have a := wq_c h (fun i hi => g i (by omega))
    have b := g h (by omega)
    rw [rl, wq]
    by_cases h1 : m.1 15 h = 0
    · rw [if_pos h1, if_neg (fun h2 => b ⟨h1, h2⟩)]; omega
    · rw [if_neg h1, List.length_cons]; omega
theorem m_sf (N : Nat) (hN : 4000 ≤ N) {b : Nat} (hb : b < 4) {m : bp_M} (hf : bm_M_first N m = some (Int32.ofNat b, m)) : ∃ m2, bm_M_showFirst N m = some m2 ∧ ∀ y, m2.1 16 y = if y = b then 0 else m.1 16 y := by
  have e2 : (0 : Int32) ≤ Int32.ofNat b := bp_nlt (bp_nneg (by omega))
  have b4 : vp_in (Int32.ofNat b) 4 := bp_in (by omega) (by omega)
  have tb := bp_tn (show b < 2147483648 by omega)
  obtain ⟨m1, v1, v2, v3, v4, v5, v6, v7, v8⟩ := m_showl N (m.1 14 b) 7 N (bp_sI m 16 b 0) (by omega) (by omega)
  obtain ⟨m2, w1, w2, w3, w4, w5⟩ := m_copy N (k := b) (by omega) 256 0 N m1 (by omega) (by omega)
  have v1' : bm_M_show N (m.1 14 b) (bp_sI m 16 b 0) = some m1 := v1
  have w1' : bm_M_showFirst_L29 N N (Int32.ofNat b) 0 m1 = some m2 := w1
  refine ⟨m2, ?_, fun y => ?_⟩
  · have e5 : (bp_sI m 16 b 0).1 14 b = m.1 14 b := bp_s1o _ _ _ _ (by decide) _
    simp only [bm_M_showFirst, hf, bp_cI, if_pos e2, bp_git b4, tb, bp_g, true_or, if_true, bp_nM, e5, v1', bp_cV]
    exact w1'
  · rw [w3 16 (by decide), v8 16 (by decide) (by decide), bp_s1]
    simp
/-- what the buffer's work leaves alone -/
def kF (c c1 : bp_M) : Prop := (∀ x, x ≠ 40 → ∀ y, c1.2 x y = c.2 x y) ∧ (∀ x, x ≠ 4 → x ≠ 20 → x ≠ 21 → ¬ (11 ≤ x ∧ x < 15) → ¬ (35 ≤ x ∧ x < 39) → ∀ y, c1.1 x y = c.1 x y) ∧ ∀ y, y ≠ 1 → y ≠ 5 → c1.1 4 y = c.1 4 y
def kG (m m1 : bp_M) : Prop := (∀ x, x ≠ 0 → ¬ (13 ≤ x ∧ x ≤ 18) → ∀ y, m1.1 x y = m.1 x y) ∧ ∀ y, y ≠ 34 → y ≠ 39 → m1.1 0 y = m.1 0 y
theorem kF.rf (c : bp_M) : kF c c := ⟨fun _ _ _ => rfl, fun _ _ _ _ _ _ _ => rfl, fun _ _ _ => rfl⟩
theorem kG.rf (c : bp_M) : kG c c := ⟨fun _ _ _ _ => rfl, fun _ _ _ => rfl⟩
theorem kF.tr {a b c : bp_M} (h : kF a b) (g : kF b c) : kF a c := ⟨fun x hx y => (g.1 x hx y).trans (h.1 x hx y), fun x a1 a2 a3 a4 a5 y => (g.2.1 x a1 a2 a3 a4 a5 y).trans (h.2.1 x a1 a2 a3 a4 a5 y), fun y a b => (g.2.2 y a b).trans (h.2.2 y a b)⟩
theorem kG.tr {a b c : bp_M} (h : kG a b) (g : kG b c) : kG a c := ⟨fun x x0 hx y => (g.1 x x0 hx y).trans (h.1 x x0 hx y), fun y a b => (g.2 y a b).trans (h.2 y a b)⟩
theorem sw.k {a b c d : bp_M} (h : sw a b c d) : kF a b ∧ kG c d := ⟨⟨h.2.1, fun x a1 _ _ _ _ y => h.1 x y (fun e => a1 e.1), fun y a _ => h.1 4 y (fun e => a e.2)⟩, ⟨fun x x0 hx y => h.2.2.1 x x0 (by omega) y, fun y a _ => h.2.2.2 y a⟩⟩
theorem sF.k {a b : bp_M} (h : sF a b) : kF a b := ⟨fun x _ y => by rw [h.1], fun x a1 a2 a3 a4 _ y => h.2.2 x a1 a2 a3 a4 y, fun y _ b => h.2.1 y b⟩
theorem sG.k {a b : bp_M} (h : sG a b) : kG a b := ⟨fun x x0 hx y => h.2.2 x x0 (by omega) (by omega) (by omega) y, fun y _ b => h.2.1 y b⟩
/-- the fresh picture on both sides -/
def zW (ord isr : Int32) (c m : bp_M) : Prop := c.1 10 1 = ord ∧ jy ord ∧ c.1 10 2 = isr ∧ jb isr ∧ c.1 10 3 = 1 ∧ zE c m
theorem zW.of {ord isr : Int32} {c m c1 m1 : bp_M} (h : zW ord isr c m) (f : kF c c1) (g : kG m m1) : zW ord isr c1 m1 := by
  obtain ⟨h1, h2, h3, h4, h5, h6⟩ := h
  have e10 : ∀ y, c1.1 10 y = c.1 10 y := fun y => f.2.1 10 (by decide) (by decide) (by decide) (by omega) (by omega) y
  refine ⟨by rw [e10]; exact h1, h2, by rw [e10]; exact h3, h4, by rw [e10]; exact h5, fun i hi => ?_⟩
  rw [f.2.1 34 (by decide) (by decide) (by decide) (by omega) (by omega), g.1 5 (by decide) (by omega)]
  exact h6 i hi
theorem bQ.of {h : Nat} {c m c1 m1 : bp_M} (H : bQ h c m) (a : c1.2 = c.2) (a1 : c1.1 4 1 = c.1 4 1) (a2 : ∀ o, (11 ≤ o ∧ o < 15) ∨ (35 ≤ o ∧ o < 39) → ∀ y, c1.1 o y = c.1 o y) (b1 : m1.1 0 34 = m.1 0 34) (b2 : ∀ o, 13 ≤ o ∧ o ≤ 16 → ∀ y, m1.1 o y = m.1 o y) : bQ h c1 m1 := by
  obtain ⟨h4, hc, hm, hQ, hT⟩ := H
  refine ⟨h4, by rw [a1]; exact hc, by rw [b1]; exact hm, fun k hk => ?_, jT_of hT (fun _ => by rw [a]) (fun _ => by rw [a])⟩
  have hTk := hT.1 k (by omega)
  rw [a, a2 _ (Or.inl hTk), a2 _ (Or.inl hTk), a2 _ (Or.inl hTk), b2 14 (by omega), b2 15 (by omega), b2 16 (by omega)]
  obtain ⟨o1, o2, o3, o4, o5, o6, o7⟩ := hQ k hk
  exact ⟨o1, o2, o3, o4, o5, o6, fun i hi => by rw [a2 _ (Or.inr (by omega)), b2 13 (by omega)]; exact o7 i hi⟩
/-- one picture shown and the others swept -/
theorem z_turn (N : Nat) (hN : 4000 ≤ N) {h S : Nat} (hS : S ≤ 2000000000) {c m : bp_M} (H : bQ h c m) (hs : jSS S c m) (hw : 1 ≤ wq m h) : ∃ c1 m1 c2 m2 h2, bc_PB_showLeast N c = some c1 ∧ bm_M_showFirst N m = some m1 ∧ bc_PB_sweep N c1 = some c2 ∧ bm_M_clean N m1 = some m2 ∧ bQ h2 c2 m2 ∧ jSS (S + 1) c2 m2 ∧ wq m2 h2 + 1 = wq m h ∧ (rl m2 h2).length = (rl m h).length ∧ (∀ i, i < h2 → ¬ (m2.1 15 i = 0 ∧ m2.1 16 i = 0)) ∧ kF c c2 ∧ kG m m2 := by
  obtain ⟨c1, m1, q1, q2, q3, q4, q5, q6⟩ := b_least N hN hS H hs
  obtain ⟨c2, m2, h2, p1, p2', p3, p4, p5, p6, p7, p8⟩ := z_sweep N hN q3
  obtain ⟨r, r1, r2⟩ := m_firstS N hN H.1 H.2.2.1
  have hd : wq m1 h + 1 = wq m h := by
    rcases r2 with ⟨-, r2⟩ | ⟨b, b1, rfl, b3⟩
    · have := wq_0 h r2; omega
    · obtain ⟨mx, x1, x2⟩ := m_sf N hN (by have := H.1; omega) r1
      rw [q2] at x1
      cases x1
      exact wq_d b3 x2 h b1
  have hl : (rl m1 h).length = (rl m h).length := by rw [rl_e (fun y => q6.2.2 15 (by decide) (by decide) (by decide) (by decide) y)]
  refine ⟨c1, m1, c2, m2, h2, q1, q2, p1, p2', p3, ?_, by rw [p5]; exact hd, by rw [p6]; exact hl, p7, q5.k.tr p8.k.1, q6.k.tr p8.k.2⟩
  unfold jSS at q4 ⊢
  simp only [p8.1 4 5 (by decide), p8.1 21 _ (fun e => absurd e.1 (by decide)), p8.1 20 _ (fun e => absurd e.1 (by decide)), p8.2.2.2 39 (by decide), p8.2.2.1 17 (by decide) (by omega), p8.2.2.1 18 (by decide) (by omega)]
  exact q4
theorem m_189 (N : Nat) (r : Int32 → Int32 → bp_M → Option bp_M) (a1 a2 a3 x5 x6 : Int32) : ∀ (j i w : Nat) (m : bp_M), i + j = 256 → j < w → ∃ m1, bm_M_keep_L189 r N a1 a2 a3 w x5 x6 (Int32.ofNat i) m = r x5 (x6 + 1) m1 ∧ (∀ x, x ≠ 18 → ∀ y, m1.1 x y = m.1 x y) ∧ (∀ y, y < i → m1.1 18 y = m.1 18 y) ∧ ∀ y, i ≤ y → y < 256 → m1.1 18 y = m.1 5 y := by
  intro j
  induction j with
  | zero =>
    intro i w m hi hw
    obtain ⟨w, rfl⟩ := Nat.exists_eq_succ_of_ne_zero (by omega : w ≠ 0)
    obtain rfl : i = 256 := by omega
    refine ⟨m, ?_, fun _ _ _ => rfl, fun _ _ => rfl, fun y h1 h2 => by omega⟩
    rw [bm_M_keep_L189, if_pos (by decide)]
    rfl
  | succ j ih =>
    intro i w m hi hw
    obtain ⟨w, rfl⟩ := Nat.exists_eq_succ_of_ne_zero (by omega : w ≠ 0)
    have e0 : ¬ (256 : Int32) ≤ Int32.ofNat i := fun e => by have := (bp_le (a := 256) (by omega) (by omega)).mp e; omega
    have i1 : vp_in (Int32.ofNat i) 256 := bp_in (by omega) (by omega)
    obtain ⟨m1, q1, q2, q3, q4⟩ := ih (i + 1) w (bp_sI m 18 i (m.1 5 i)) (by omega) (by omega)
    refine ⟨m1, ?_, fun x hx y => by rw [q2 x hx, bp_s1o _ _ _ _ hx], fun y hy => by rw [q3 y (by omega), bp_s1k _ _ _ _ (by omega)], fun y h1 h2 => ?_⟩
    · rw [bm_M_keep_L189, if_neg e0]
      simp only [bp_git i1, bp_tn (show i < 2147483648 by omega), bp_nM, bp_nI, bp_inc]
      exact q1
    · by_cases he : y = i
      · subst he; rw [q3 y (by omega), bp_s1e]
      · rw [q4 y (by omega) h2, bp_s1o _ _ _ _ (by decide)]
/-- the fresh picture shown at once -/
theorem z_passby (N : Nat) (hN : 4000 ≤ N) {h S : Nat} (hS : S ≤ 2000000000) {ord isr : Int32} (key : Int32) (r : Int32 → Int32 → bp_M → Option bp_M) (x6 : Int32) {c m : bp_M} (H : bQ h c m) (hs : jSS S c m) (hz : zW ord isr c m) : ∃ c1 m1, bc_PB_show N 10 c = some c1 ∧ bm_M_keep_L178 r N key ord isr x6 m = r 1 (x6 + 1) m1 ∧ bQ h c1 m1 ∧ jSS (S + 1) c1 m1 ∧ kF c c1 ∧ kG m m1 := by
  obtain ⟨z1, z2, z3, z4, z5, z6⟩ := hz
  obtain ⟨n, hn, s1, s2, s3, s4⟩ := hs
  obtain ⟨c1, u1, u2, u3, u4, u5, u6, u7, u8⟩ := c_show N (n := n) (q := 10) (by omega) ⟨by omega, by omega⟩ s1
  obtain ⟨m1, v1, v2, v3, v4, v5, v6, v7, v8⟩ := m_showl N ord 7 N m (by omega) (by omega)
  obtain ⟨m2, w1, w2, w3, w4⟩ := m_189 N r key ord isr 1 x6 256 0 N m1 (by omega) (by omega)
  have v1' : bm_M_show N ord m = some m1 := v1
  refine ⟨c1, m2, u1, ?_, H.of u2 (u7 1 (by decide)) (fun o ho y => u8 o (by omega) (by omega) (by omega) y) (by rw [w2 0 (by decide), v7 34 (by decide)]) (fun o ho y => by rw [w2 o (by omega), v8 o (by omega) (by omega)]), ?_, ⟨fun x _ y => by rw [u2], fun x a1 a2 a3 _ _ y => u8 x a1 a2 a3 y, fun y _ b => u7 y b⟩, ⟨fun x x0 hx y => by rw [w2 x (by omega), v8 x x0 (by omega)], fun y _ b => by rw [w2 0 (by decide), v7 y b]⟩⟩
  · simp only [bm_M_keep_L178, v1', bp_cV]
    exact w1
  · refine b_show (o := ord) s1 s2 hn s3 u3 (by rw [u4]; exact z1) u5 (by rw [w2 0 (by decide), v6]) (by rw [w2 17 (by decide)]; exact v3) (fun j a b => by rw [w2 17 (by decide), v4 j a b]) (fun i hi => ?_)
    rw [u6 i hi, w4 i (by omega) hi, v8 5 (by decide) (by decide)]
    exact (z6 i hi).1
theorem m_280 (N : Nat) (a1 a2 a3 : Int32) {h : Nat} (hh : h < 4) : ∀ (j i w : Nat) (m : bp_M), i + j = 256 → j < w → m.1 0 34 = Int32.ofNat h → ∃ m1, bm_M_keep_L280 N a1 a2 a3 w (Int32.ofNat i) m = some (bp_sI m1 0 34 (Int32.ofNat (h + 1))) ∧ (∀ x, x ≠ 13 → ∀ y, m1.1 x y = m.1 x y) ∧ (∀ y, ¬ (256 * h + i ≤ y ∧ y < 256 * h + 256) → m1.1 13 y = m.1 13 y) ∧ ∀ y, i ≤ y → y < 256 → m1.1 13 (256 * h + y) = m.1 5 y := by
  intro j
  induction j with
  | zero =>
    intro i w m hi hw hm
    obtain ⟨w, rfl⟩ := Nat.exists_eq_succ_of_ne_zero (by omega : w ≠ 0)
    obtain rfl : i = 256 := by omega
    refine ⟨m, ?_, fun _ _ _ => rfl, fun _ _ => rfl, fun y h1 h2 => by omega⟩
    rw [bm_M_keep_L280, if_pos (by decide)]
    simp only [bm_M_keep_L317, bp_nM, hm, bp_inc, bm_M_keep_L327]
  | succ j ih =>
    intro i w m hi hw hm
    obtain ⟨w, rfl⟩ := Nat.exists_eq_succ_of_ne_zero (by omega : w ≠ 0)
    have e0 : ¬ (256 : Int32) ≤ Int32.ofNat i := fun e => by have := (bp_le (a := 256) (by omega) (by omega)).mp e; omega
    have i1 : vp_in (Int32.ofNat i) 256 := bp_in (by omega) (by omega)
    have i2 : vp_in (Int32.ofNat (256 * h + i)) 1024 := bp_in (by omega) (by omega)
    obtain ⟨m1, q1, q2, q3, q4⟩ := ih (i + 1) w (bp_sI m 13 (256 * h + i) (m.1 5 i)) (by omega) (by omega) (by rw [bp_s1o _ _ _ _ (by decide)]; exact hm)
    refine ⟨m1, ?_, fun x hx y => by rw [q2 x hx, bp_s1o _ _ _ _ hx], fun y hy => by rw [q3 y (by omega), bp_s1k _ _ _ _ (by omega)], fun y h1 h2 => ?_⟩
    · rw [bm_M_keep_L280, if_neg e0]
      simp only [bp_git i1, bp_tn (show i < 2147483648 by omega), hm, x256, bp_add, bp_git i2, bp_tn (show 256 * h + i < 2147483648 by omega), bp_nM, bp_nI, bp_inc]
      exact q1
    · by_cases he : y = i
      · subst he; rw [q3 _ (by omega), bp_s1e]
      · rw [q4 y (by omega) h2, bp_s1o _ _ _ _ (by decide)]
/-- the fresh picture takes a place -/
theorem z_place2 (N : Nat) (hN : 4000 ≤ N) {h : Nat} (hh : h < 4) {ord isr : Int32} (key : Int32) {c m : bp_M} (H : bQ h c m) (hz : zW ord isr c m) : ∃ c1 m1, bc_PB_admit_L107 N 10 0 c = some c1 ∧ bm_M_keep_L234 N key ord isr 0 m = some m1 ∧ bQ (h + 1) c1 m1 ∧ kF c c1 ∧ kG m m1 ∧ c1.1 4 5 = c.1 4 5 ∧ (∀ y, c1.1 20 y = c.1 20 y) ∧ (∀ y, c1.1 21 y = c.1 21 y) ∧ m1.1 0 39 = m.1 0 39 ∧ (∀ y, m1.1 17 y = m.1 17 y) ∧ ∀ y, m1.1 18 y = m.1 18 y := by
  obtain ⟨z1, z2, z3, z4, z5, z6⟩ := hz
  obtain ⟨h4, hc, hm, hQ, hT⟩ := id H
  have hTh := hT.1 h hh
  obtain ⟨s, hs⟩ : ∃ s, s = c.2 40 h := ⟨_, rfl⟩
  rw [← hs] at hTh
  have pI : isPI (c.2 40 h) := by rw [← hs]; exact ⟨by omega, by omega⟩
  have h4' : vp_in (Int32.ofNat h) 4 := bp_in (by omega) (by omega)
  have th : (Int32.ofNat h).toNatClampNeg = h := bp_tn (by omega)
  have t0 : (0 : Int32).toNatClampNeg = 0 := rfl
  have t1 : (256 : Int32).toNatClampNeg = 256 := by decide
  have hcp : bp_cp 0 0 256 256 256 := by decide
  -- the class
  obtain ⟨cc, hcc⟩ : ∃ cc, cc = bp_sC c 34 (s + 24) 0 0 256 := ⟨_, rfl⟩
  have C1 : ∀ x, x ≠ s + 24 → ∀ y, cc.1 x y = c.1 x y := fun x hx y => by
    rw [hcc]
    show (if x = s + 24 then _ else c.1 x) y = _
    rw [if_neg hx]
  have C2 : ∀ i, i < 256 → cc.1 (s + 24) i = c.1 34 i := fun i hi => by
    rw [hcc]
    show (if s + 24 = s + 24 then va_cpy (c.1 34) (c.1 (s + 24)) 0 0 256 else c.1 (s + 24)) i = _
    rw [if_pos rfl]
    simp [va_cpy, hi]
  obtain ⟨c3, hc3⟩ : ∃ c3, c3 = bp_sI (bp_sI (bp_sI cc s 1 ord) s 2 isr) s 3 1 := ⟨_, rfl⟩
  have C3 : ∀ x, x ≠ s → ∀ y, c3.1 x y = cc.1 x y := fun x hx y => by rw [hc3, bp_s1o _ _ _ _ hx, bp_s1o _ _ _ _ hx, bp_s1o _ _ _ _ hx]
  have c32 : c3.2 = c.2 := by rw [hc3, hcc]; rfl
  have c341 : c3.1 4 1 = Int32.ofNat h := by rw [C3 4 (by omega), C1 4 (by omega)]; exact hc
  have E1 : bc_PI_copy N s 10 c = some c3 := by
    have a1 : cc.1 10 1 = ord := by rw [C1 10 (by omega)]; exact z1
    have a2 : (bp_sI cc s 1 ord).1 10 2 = isr := by rw [bp_s1o _ _ _ _ (by omega), C1 10 (by omega)]; exact z3
    have a3 : (bp_sI (bp_sI cc s 1 ord) s 2 isr).1 10 3 = 1 := by rw [bp_s1o _ _ _ _ (by omega), bp_s1o _ _ _ _ (by omega), C1 10 (by omega)]; exact z5
    unfold bc_PI_copy
    rw [bp_gt hcp, t0, t1, show bp_sC c (10 + 24) (s + 24) 0 0 256 = cc from hcc.symm]
    simp only [bp_nM, a1, a2, a3]
    rw [bp_gt (show isr = 0 ∨ isr = 1 from z4), bp_gt (show (1 : Int32) = 0 ∨ True from Or.inr trivial), ← hc3]
  have EC : bc_PB_admit_L107 N 10 0 c = some (bp_sI c3 4 1 (Int32.ofNat (h + 1))) := by
    simp only [bc_PB_admit_L107, not_true, if_false, hc, if_neg (ge4 hh), bp_git h4', th, bp_nN, bp_gt pI, ← hs, E1, bp_cV, bp_nM, c341, bp_inc, bc_PB_admit_L142]
    rw [bp_gt (show isPI s by rw [hs]; exact pI)]
  -- the reference
  obtain ⟨m3, hm3⟩ : ∃ m3, m3 = bp_sI (bp_sI (bp_sI m 14 h ord) 15 h isr) 16 h 1 := ⟨_, rfl⟩
  have M3 : ∀ x, ¬ (14 ≤ x ∧ x ≤ 16) → ∀ y, m3.1 x y = m.1 x y := fun x hx y => by rw [hm3, bp_s1o _ _ _ _ (by omega), bp_s1o _ _ _ _ (by omega), bp_s1o _ _ _ _ (by omega)]
  have M3y : ∀ x y, y ≠ h → m3.1 x y = m.1 x y := fun x y hy => by
    rw [hm3]
    simp only [bp_s1]
    rw [if_neg (fun e => hy e.2), if_neg (fun e => hy e.2), if_neg (fun e => hy e.2)]
  have m314 : m3.1 14 h = ord := by rw [hm3]; simp [bp_s1]
  have m315 : m3.1 15 h = isr := by rw [hm3]; simp [bp_s1]
  have m316 : m3.1 16 h = 1 := by rw [hm3]; simp [bp_s1]
  obtain ⟨m4, p1, p2', p3, p4⟩ := m_280 N key ord isr hh 256 0 N m3 (by omega) (by omega) (by rw [M3 0 (by omega)]; exact hm)
  have EM : bm_M_keep_L234 N key ord isr 0 m = some (bp_sI m4 0 34 (Int32.ofNat (h + 1))) := by
    have a1 : (bp_sI m 14 h ord).1 0 34 = Int32.ofNat h := by rw [bp_s1o _ _ _ _ (by decide)]; exact hm
    have a2 : (bp_sI (bp_sI m 14 h ord) 15 h isr).1 0 34 = Int32.ofNat h := by rw [bp_s1o _ _ _ _ (by decide)]; exact a1
    unfold bm_M_keep_L234
    rw [if_neg (fun hn => hn rfl), hm, if_neg (ge4 hh), bp_git h4', th]
    simp only [bp_nM, a1, bp_git h4', th]
    rw [bp_gt (show isr = 0 ∨ isr = 1 from z4)]
    simp only [a2, bp_git h4', th]
    rw [bp_gt (show (1 : Int32) = 0 ∨ True from Or.inr trivial), ← hm3]
    exact p1
  have cs : ∀ x y, x ≠ 4 → (bp_sI c3 4 1 (Int32.ofNat (h + 1))).1 x y = c3.1 x y := fun x y hx => bp_s1o _ _ _ _ hx y
  have ms : ∀ x y, x ≠ 0 → (bp_sI m4 0 34 (Int32.ofNat (h + 1))).1 x y = m4.1 x y := fun x y hx => bp_s1o _ _ _ _ hx y
  refine ⟨_, _, EC, EM, ⟨by omega, bp_s1e _ _ _ _, bp_s1e _ _ _ _, fun k hk => ?_, jT_of hT (fun _ => by rw [bp_s2, c32]) (fun _ => by rw [bp_s2, c32])⟩, ⟨fun x _ y => by rw [bp_s2, c32], fun x a1 a2 a3 a4 a5 y => ?_, fun y a b => ?_⟩, ⟨fun x x0 hx y => ?_, fun y a b => ?_⟩, ?_, fun y => ?_, fun y => ?_, ?_, fun y => ?_, fun y => ?_⟩
  · have hTk := hT.1 k (by omega)
    rw [bp_s2, c32, cs _ _ (by omega), cs _ _ (by omega), cs _ _ (by omega), ms 14 _ (by decide), ms 15 _ (by decide), ms 16 _ (by decide), p2' 14 (by decide), p2' 15 (by decide), p2' 16 (by decide)]
    by_cases he : k = h
    · subst he
      rw [← hs, m314, m315, m316]
      have s1 : c3.1 s 1 = ord := by rw [hc3]; simp [bp_s1]
      have s2 : c3.1 s 2 = isr := by rw [hc3]; simp [bp_s1]
      have s3 : c3.1 s 3 = 1 := by rw [hc3]; simp [bp_s1]
      refine ⟨s1, z2, s2, z4, s3, Or.inr rfl, fun i hi => ?_⟩
      rw [cs _ _ (by omega), C3 _ (by omega), C2 i hi, ms 13 _ (by decide), p4 i (by omega) hi, M3 5 (by omega)]
      exact z6 i hi
    · have hne : c.2 40 k ≠ s := fun e => he (hT.2.1 k (by omega) h hh (e.trans hs))
      rw [C3 _ hne, C3 _ hne, C3 _ hne, C1 _ (by omega), C1 _ (by omega), C1 _ (by omega), M3y 14 k he, M3y 15 k he, M3y 16 k he]
      obtain ⟨o1, o2, o3, o4, o5, o6, o7⟩ := hQ k (by omega)
      refine ⟨o1, o2, o3, o4, o5, o6, fun i hi => ?_⟩
      rw [cs _ _ (by omega), C3 _ (by omega), C1 _ (by omega), ms 13 _ (by decide), p3 _ (by omega), M3 13 (by omega)]
      exact o7 i hi
  · rw [cs x y a1, C3 x (by omega), C1 x (by omega)]
  · rw [bp_s1k _ _ _ _ a, C3 4 (by omega), C1 4 (by omega)]
  · rw [ms x y x0, p2' x (by omega), M3 x (by omega)]
  · rw [bp_s1k _ _ _ _ a, p2' 0 (by decide), M3 0 (by omega)]
  · rw [bp_s1k _ _ _ _ (by decide), C3 4 (by omega), C1 4 (by omega)]
  · rw [cs 20 y (by decide), C3 20 (by omega), C1 20 (by omega)]
  · rw [cs 21 y (by decide), C3 21 (by omega), C1 21 (by omega)]
  · rw [bp_s1k _ _ _ _ (by decide), p2' 0 (by decide), M3 0 (by omega)]
  · rw [ms 17 y (by decide), p2' 17 (by decide), M3 17 (by omega)]
  · rw [ms 18 y (by decide), p2' 18 (by decide), M3 18 (by omega)]

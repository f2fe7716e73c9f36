/-! Pictures that neither are references nor wait leave: sweep against clean. -/
def qR (c m : bp_M) (k : Nat) : Prop := c.1 (c.2 40 k) 1 = m.1 14 k ∧ jy (m.1 14 k) ∧ c.1 (c.2 40 k) 2 = m.1 15 k ∧ jb (m.1 15 k) ∧ c.1 (c.2 40 k) 3 = m.1 16 k ∧ jb (m.1 16 k) ∧ ∀ i, i < 256 → c.1 (c.2 40 k + 24) i = m.1 13 (256 * k + i) ∧ jy (m.1 13 (256 * k + i))
/-- how many of the first k wait -/
def wq (m : bp_M) : Nat → Nat
  | 0 => 0
  | k + 1 => wq m k + (if m.1 16 k = 0 then 0 else 1)
theorem wq_e {m m1 : bp_M} : ∀ k, (∀ y, y < k → m1.1 16 y = m.1 16 y) → wq m1 k = wq m k
  | 0, _ => rfl
  | k + 1, h => by rw [wq, wq, wq_e k (fun y hy => h y (by omega)), h k (by omega)]
theorem rl_ek {m m1 : bp_M} : ∀ k, (∀ y, y < k → m1.1 15 y = m.1 15 y) → rl m1 k = rl m k
  | 0, _ => rfl
  | k + 1, h => by rw [rl, rl, rl_ek k (fun y hy => h y (by omega)), h k (by omega)]
theorem wq_le (m : bp_M) : ∀ k, wq m k ≤ k
  | 0 => Nat.le_refl 0
  | k + 1 => by
    have := wq_le m k
    rw [wq]
    split <;> omega
theorem m_68 (N : Nat) (r4 : Int32 → Int32 → bp_M → Option bp_M) {t k : Nat} (htk : t ≤ k) (hk : k < 4) : ∀ (j i w : Nat) (m : bp_M), i + j = 256 → j < w → ∃ m1, bm_M_clean_L68 r4 N w (Int32.ofNat t) (Int32.ofNat k) (Int32.ofNat i) m = r4 (Int32.ofNat (t + 1)) (Int32.ofNat (k + 1)) m1 ∧ (∀ x, x ≠ 13 → ∀ y, m1.1 x y = m.1 x y) ∧ (∀ y, ¬ (256 * t + i ≤ y ∧ y < 256 * t + 256) → m1.1 13 y = m.1 13 y) ∧ ∀ y, i ≤ y → y < 256 → m1.1 13 (256 * t + y) = m.1 13 (256 * k + y) := by
  intro j
  induction j with
  | zero =>
    intro i w m hi hw
    obtain ⟨w, rfl⟩ := Nat.exists_eq_succ_of_ne_zero (by omega : w ≠ 0)
    obtain rfl : i = 256 := by omega
    refine ⟨m, ?_, fun _ _ _ => rfl, fun _ _ => rfl, fun y h1 h2 => by omega⟩
    rw [bm_M_clean_L68, if_pos (by decide)]
    simp only [bm_M_clean_L105, bm_M_clean_L108, bp_nI, bp_inc]
  | succ j ih =>
    intro i w m hi hw
    obtain ⟨w, rfl⟩ := Nat.exists_eq_succ_of_ne_zero (by omega : w ≠ 0)
    have e0 : ¬ (256 : Int32) ≤ Int32.ofNat i := fun e => by have := (bp_le (a := 256) (by omega) (by omega)).mp e; omega
    have i1 : vp_in (Int32.ofNat (256 * k + i)) 1024 := bp_in (by omega) (by omega)
    have i2 : vp_in (Int32.ofNat (256 * t + i)) 1024 := bp_in (by omega) (by omega)
    obtain ⟨m1, q1, q2, q3, q4⟩ := ih (i + 1) w (bp_sI m 13 (256 * t + i) (m.1 13 (256 * k + i))) (by omega) (by omega)
    refine ⟨m1, ?_, fun x hx y => by rw [q2 x hx, bp_s1o _ _ _ _ hx], fun y hy => ?_, fun y h1 h2 => ?_⟩
    · rw [bm_M_clean_L68, if_neg e0]
      simp only [x256, bp_add, bp_git i1, bp_git i2, bp_tn (show 256 * k + i < 2147483648 by omega), bp_tn (show 256 * t + i < 2147483648 by omega), bp_nM, bp_nI, bp_inc]
      exact q1
    · rw [q3 y (by omega), bp_s1k _ _ _ _ (by omega)]
    · by_cases he : y = i
      · subst he
        rw [q3 _ (by omega), bp_s1e]
      · rw [q4 y (by omega) h2, bp_s1]
        by_cases hz : 256 * k + y = 256 * t + i
        · omega
        · rw [if_neg (fun e => hz e.2)]
/-- what sweeping leaves -/
def sw (c c1 m m1 : bp_M) : Prop := (∀ x y, ¬ (x = 4 ∧ y = 1) → c1.1 x y = c.1 x y) ∧ (∀ x, x ≠ 40 → ∀ y, c1.2 x y = c.2 x y) ∧ (∀ x, x ≠ 0 → ¬ (13 ≤ x ∧ x ≤ 16) → ∀ y, m1.1 x y = m.1 x y) ∧ ∀ y, y ≠ 34 → m1.1 0 y = m.1 0 y
theorem sw.tr {a b c d e f : bp_M} (h : sw a b d e) (g : sw b c e f) : sw a c d f := ⟨fun x y hx => (g.1 x y hx).trans (h.1 x y hx), fun x hx y => (g.2.1 x hx y).trans (h.2.1 x hx y), fun x x0 hx y => (g.2.2.1 x x0 hx y).trans (h.2.2.1 x x0 hx y), fun y hy => (g.2.2.2 y hy).trans (h.2.2.2 y hy)⟩
theorem z_sweepl (N : Nat) (hN : 4000 ≤ N) {h : Nat} (h4 : h ≤ 4) (m0 : bp_M) : ∀ (j k t w w2 : Nat) (c m : bp_M), k + j = h → t ≤ k → j < w → j < w2 → c.1 4 1 = Int32.ofNat h → m.1 0 34 = Int32.ofNat h → jT c → (∀ i, i < t → qR c m i) → (∀ i, k ≤ i → i < h → qR c m i) → (∀ i, k ≤ i → i < h → m.1 15 i = m0.1 15 i ∧ m.1 16 i = m0.1 16 i) → wq m t = wq m0 k → (rl m t).length = (rl m0 k).length → (∀ i, i < t → ¬ (m.1 15 i = 0 ∧ m.1 16 i = 0)) → ∃ c1 m1 t1, bc_PB_sweep_L4 N w (Int32.ofNat t) (Int32.ofNat k) c = some c1 ∧ bm_M_clean_L4 N w2 (Int32.ofNat t) (Int32.ofNat k) m = some m1 ∧ bQ t1 c1 m1 ∧ t1 ≤ h ∧ wq m1 t1 = wq m0 h ∧ (rl m1 t1).length = (rl m0 h).length ∧ (∀ i, i < t1 → ¬ (m1.1 15 i = 0 ∧ m1.1 16 i = 0)) ∧ sw c c1 m m1 := by
  intro j
  induction j with
  | zero =>
    intro k t w w2 c m hk htk hw hw2 hc hm hT hA hB hD hW hR hN0
    obtain ⟨w, rfl⟩ := Nat.exists_eq_succ_of_ne_zero (by omega : w ≠ 0)
    obtain ⟨w2, rfl⟩ := Nat.exists_eq_succ_of_ne_zero (by omega : w2 ≠ 0)
    obtain rfl : k = h := by omega
    have e : Int32.ofNat k ≤ Int32.ofNat k := (bp_le (by omega) (by omega)).mpr (by omega)
    refine ⟨bp_sI c 4 1 (Int32.ofNat t), bp_sI m 0 34 (Int32.ofNat t), t, ?_, ?_, ⟨by omega, bp_s1e _ _ _ _, bp_s1e _ _ _ _, fun i hi => ?_, jT_of hT (fun _ => rfl) (fun _ => rfl)⟩, htk, ?_, ?_, fun i hi => ?_, ⟨fun x y hx => by rw [bp_s1, if_neg hx], fun _ _ _ => rfl, fun x x0 _ y => bp_s1o _ _ _ _ x0 y, fun y hy => bp_s1k _ _ _ _ hy⟩⟩
    · rw [bc_PB_sweep_L4, hc, if_pos e]; rfl
    · rw [bm_M_clean_L4, hm, if_pos e]; rfl
    · have hTi := hT.1 i (by omega)
      have := hA i hi
      unfold qR at this
      rw [bp_s2, bp_s1o _ _ _ _ (by omega), bp_s1o _ _ _ _ (by omega), bp_s1o _ _ _ _ (by omega), bp_s1o _ _ _ _ (by omega), bp_s1o _ _ _ _ (by omega), bp_s1o _ _ _ _ (by omega)]
      have e24 : ∀ y, (bp_sI c 4 1 (Int32.ofNat t)).1 (c.2 40 i + 24) y = c.1 (c.2 40 i + 24) y := fun y => bp_s1o _ _ _ _ (by omega) y
      have e13 : ∀ y, (bp_sI m 0 34 (Int32.ofNat t)).1 13 y = m.1 13 y := fun y => bp_s1o _ _ _ _ (by decide) y
      simp only [e24, e13]
      exact this
    · rw [wq_e (m := m) t (fun y _ => bp_s1o _ _ _ _ (by decide) y)]; exact hW
    · rw [rl_ek (m := m) t (fun y _ => bp_s1o _ _ _ _ (by decide) y)]; exact hR
    · rw [bp_s1o _ _ _ _ (by decide), bp_s1o _ _ _ _ (by decide)]; exact hN0 i hi
  | succ j ih =>
    intro k t w w2 c m hk htk hw hw2 hc hm hT hA hB hD hW hR hN0
    obtain ⟨w, rfl⟩ := Nat.exists_eq_succ_of_ne_zero (by omega : w ≠ 0)
    obtain ⟨w2, rfl⟩ := Nat.exists_eq_succ_of_ne_zero (by omega : w2 ≠ 0)
    have e : ¬ Int32.ofNat h ≤ Int32.ofNat k := fun e => by have := (bp_le (by omega) (by omega)).mp e; omega
    have k4 : vp_in (Int32.ofNat k) 4 := bp_in (by omega) (by omega)
    have t4 : vp_in (Int32.ofNat t) 4 := bp_in (by omega) (by omega)
    have tk : (Int32.ofNat k).toNatClampNeg = k := bp_tn (by omega)
    have tt : (Int32.ofNat t).toNatClampNeg = t := bp_tn (by omega)
    have hTk := hT.1 k (by omega)
    have hTt := hT.1 t (by omega)
    have pk : isPI (c.2 40 k) := ⟨by omega, by omega⟩
    have pt : isPI (c.2 40 t) := ⟨by omega, by omega⟩
    obtain ⟨o1, o2, o3, o4, o5, o6, o7⟩ := hB k (by omega) (by omega)
    obtain ⟨d1, d2⟩ := hD k (by omega) (by omega)
    by_cases hkeep : m.1 15 k = 0 ∧ m.1 16 k = 0
    · obtain ⟨z1, z2⟩ := hkeep
      obtain ⟨c1, m1, t1, q1, q2, q3⟩ := ih (k + 1) t w w2 c m (by omega) (by omega) (by omega) (by omega) hc hm hT hA (fun i a b => hB i (by omega) b) (fun i a b => hD i (by omega) b) (by rw [wq, ← d2, if_pos z2, hW, Nat.add_zero]) (by rw [rl, ← d1, if_pos z1]; exact hR) hN0
      refine ⟨c1, m1, t1, ?_, ?_, q3⟩
      · rw [bc_PB_sweep_L4, hc, if_neg e]
        simp only [bp_git k4, tk, bp_nN, bp_gt pk, o3, o5, z1, z2, not_true, if_false, if_true, bc_PB_sweep_L55, bp_nI, bp_inc]
        exact q1
      · rw [bm_M_clean_L4, hm, if_neg e]
        simp only [bp_git k4, tk, z1, z2, not_true, if_false, if_true, bm_M_clean_L108, bp_nI, bp_inc]
        exact q2
    · -- the class's swap
      obtain ⟨c3, hc3⟩ : ∃ c3, c3 = bp_sR (bp_sR c 40 k (c.2 40 t)) 40 t (c.2 40 k) := ⟨_, rfl⟩
      have c31 : c3.1 = c.1 := by rw [hc3]; rfl
      have c3t : c3.2 40 t = c.2 40 k := by rw [hc3, bp_r2, if_pos ⟨rfl, rfl⟩]
      have c3k : k ≠ t → c3.2 40 k = c.2 40 t := fun hne => by rw [hc3, bp_r2, if_neg (fun e => hne e.2), bp_r2, if_pos ⟨rfl, rfl⟩]
      have c3o : ∀ y, y ≠ t → y ≠ k → c3.2 40 y = c.2 40 y := fun y a b => by rw [hc3, bp_r2, if_neg (fun e => a e.2), bp_r2, if_neg (fun e => b e.2)]
      have c3x : ∀ x, x ≠ 40 → ∀ y, c3.2 x y = c.2 x y := fun x hx y => by rw [hc3, bp_r2, if_neg (fun e => hx e.1), bp_r2, if_neg (fun e => hx e.1)]
      have c3s : ∀ y, c3.2 40 y = c.2 40 (if y = t then k else if y = k then t else y) := fun y => by
        by_cases a : y = t
        · rw [if_pos a, a, c3t]
        · rw [if_neg a]
          by_cases b : y = k
          · rw [if_pos b, b, c3k (fun e => a (b.trans e))]
          · rw [if_neg b, c3o y a b]
      have hT3 : jT c3 := by
        refine ⟨fun y hy => ?_, fun x hx y hy he => ?_, fun y hy => by rw [c3x 39 (by decide)]; exact hT.2.2 y hy⟩
        · rw [c3s]
          apply hT.1
          split
          · omega
          · split <;> omega
        · rw [c3s, c3s] at he
          have := hT.2.1 _ (by split; omega; split <;> omega) _ (by split; omega; split <;> omega) he
          split at this <;> split at this <;> (try split at this) <;> (try split at this) <;> omega
      -- the reference's copy
      obtain ⟨m3, hm3⟩ : ∃ m3, m3 = bp_sI (bp_sI (bp_sI m 14 t (m.1 14 k)) 15 t (m.1 15 k)) 16 t (m.1 16 k) := ⟨_, rfl⟩
      have m3o : ∀ x, ¬ (14 ≤ x ∧ x ≤ 16) → ∀ y, m3.1 x y = m.1 x y := fun x hx y => by rw [hm3, bp_s1o _ _ _ _ (by omega), bp_s1o _ _ _ _ (by omega), bp_s1o _ _ _ _ (by omega)]
      have m3y : ∀ x y, y ≠ t → m3.1 x y = m.1 x y := fun x y hy => by
        rw [hm3]
        simp only [bp_s1]
        rw [if_neg (fun e => hy e.2), if_neg (fun e => hy e.2), if_neg (fun e => hy e.2)]
      have m314 : m3.1 14 t = m.1 14 k := by rw [hm3]; simp [bp_s1]
      have m315 : m3.1 15 t = m.1 15 k := by rw [hm3]; simp [bp_s1]
      have m316 : m3.1 16 t = m.1 16 k := by rw [hm3]; simp [bp_s1]
      obtain ⟨m4, p1, p2', p3, p4⟩ := m_68 N (bm_M_clean_L4 N w2) htk (show k < 4 by omega) 256 0 N m3 (by omega) (by omega)
      have m4o : ∀ x, ¬ (13 ≤ x ∧ x ≤ 16) → ∀ y, m4.1 x y = m.1 x y := fun x hx y => by rw [p2' x (by omega), m3o x (by omega)]
      have m4y : ∀ x, x ≠ 13 → ∀ y, y ≠ t → m4.1 x y = m.1 x y := fun x hx y hy => by rw [p2' x hx, m3y x y hy]
      have m4s : ∀ y, ¬ (256 * t ≤ y ∧ y < 256 * t + 256) → m4.1 13 y = m.1 13 y := fun y hy => by rw [p3 y (by omega), m3o 13 (by omega)]
      have E30 : bm_M_clean_L30 (bm_M_clean_L4 N w2) N (Int32.ofNat t) (Int32.ofNat k) m = bm_M_clean_L4 N w2 (Int32.ofNat (t + 1)) (Int32.ofNat (k + 1)) m4 := by
        have e15 : (bp_sI m 14 t (m.1 14 k)).1 15 k = m.1 15 k := bp_s1o _ _ _ _ (by decide) _
        have e16 : (bp_sI (bp_sI m 14 t (m.1 14 k)) 15 t (m.1 15 k)).1 16 k = m.1 16 k := by rw [bp_s1o _ _ _ _ (by decide), bp_s1o _ _ _ _ (by decide)]
        simp only [bm_M_clean_L30, bp_git k4, bp_git t4, tk, tt, bp_nM, e15, e16]
        rw [bp_gt (show m.1 15 k = 0 ∨ m.1 15 k = 1 from o4), bp_gt (show m.1 16 k = 0 ∨ m.1 16 k = 1 from o6), ← hm3]
        exact p1
      have E33 : bc_PB_sweep_L33 (bc_PB_sweep_L4 N w) N (Int32.ofNat t) (Int32.ofNat k) (c.2 40 k) c = bc_PB_sweep_L4 N w (Int32.ofNat (t + 1)) (Int32.ofNat (k + 1)) c3 := by
        simp only [bc_PB_sweep_L33, bp_git t4, tt, bp_nN, bp_gt pt, bp_git k4, tk, bp_nM, bp_nI, bp_inc, bc_PB_sweep_L55]
        rw [← hc3]
      -- the relation, place by place
      have same : ∀ i, i < 4 → i ≠ t → i ≠ k → qR c m i → qR c3 m4 i := fun i hi a b hq => by
        unfold qR at hq ⊢
        rw [c31, c3o i a b, m4y 14 (by decide) i a, m4y 15 (by decide) i a, m4y 16 (by decide) i a]
        obtain ⟨g1, g2, g3, g4, g5, g6, g7⟩ := hq
        exact ⟨g1, g2, g3, g4, g5, g6, fun y hy => by rw [m4s _ (by omega)]; exact g7 y hy⟩
      have hqt : qR c3 m4 t := by
        unfold qR
        rw [c31, c3t, p2' 14 (by decide), m314, p2' 15 (by decide), m315, p2' 16 (by decide), m316]
        exact ⟨o1, o2, o3, o4, o5, o6, fun y hy => by rw [p4 y (by omega) hy, m3o 13 (by omega)]; exact o7 y hy⟩
      obtain ⟨c1, m1, t1, q1, q2, q3, q4, q5, q6, q7, q8⟩ := ih (k + 1) (t + 1) w w2 c3 m4 (by omega) (by omega) (by omega) (by omega) (by rw [c31]; exact hc) (by rw [m4o 0 (by omega)]; exact hm) hT3 (fun i hi => by
          by_cases he : i = t
          · subst he; exact hqt
          · exact same i (by omega) he (by omega) (hA i (by omega))) (fun i a b => same i (by omega) (by omega) (by omega) (hB i (by omega) b)) (fun i a b => by
          rw [m4y 15 (by decide) i (by omega), m4y 16 (by decide) i (by omega)]
          exact hD i (by omega) b) (by
          rw [wq, wq, wq_e (m := m) t (fun y hy => m4y 16 (by decide) y (by omega)), hW, p2' 16 (by decide), m316, ← d2]) (by
          rw [rl, rl, rl_ek (m := m) t (fun y hy => m4y 15 (by decide) y (by omega)), p2' 15 (by decide), m315, ← d1]
          split
          · exact hR
          · rw [List.length_cons, List.length_cons, hR]) (fun i hi => by
          by_cases he : i = t
          · subst he
            rw [p2' 15 (by decide), m315, p2' 16 (by decide), m316]
            exact hkeep
          · rw [m4y 15 (by decide) i he, m4y 16 (by decide) i he]
            exact hN0 i (by omega))
      refine ⟨c1, m1, t1, ?_, ?_, q3, q4, q5, q6, q7, ⟨fun x y hx => by rw [q8.1 x y hx, c31], fun x hx y => by rw [q8.2.1 x hx, c3x x hx], fun x x0 hx y => by rw [q8.2.2.1 x x0 hx, m4o x hx], fun y hy => by rw [q8.2.2.2 y hy, m4o 0 (by omega)]⟩⟩
      · rw [← q1, ← E33, bc_PB_sweep_L4, hc, if_neg e]
        simp only [bp_git k4, tk, bp_nN, bp_gt pk, o3, o5]
        by_cases z1 : m.1 15 k = 0
        · have z2 : ¬ m.1 16 k = 0 := fun z2 => hkeep ⟨z1, z2⟩
          rw [if_neg (fun hn => hn z1), if_neg z2]
        · rw [if_pos z1]
      · rw [← q2, ← E30, bm_M_clean_L4, hm, if_neg e]
        simp only [bp_git k4, tk]
        by_cases z1 : m.1 15 k = 0
        · have z2 : ¬ m.1 16 k = 0 := fun z2 => hkeep ⟨z1, z2⟩
          rw [if_neg (fun hn => hn z1), if_neg z2]
        · rw [if_pos z1]
theorem z_sweep (N : Nat) (hN : 4000 ≤ N) {h : Nat} {c m : bp_M} (H : bQ h c m) : ∃ c1 m1 t1, bc_PB_sweep N c = some c1 ∧ bm_M_clean N m = some m1 ∧ bQ t1 c1 m1 ∧ t1 ≤ h ∧ wq m1 t1 = wq m h ∧ (rl m1 t1).length = (rl m h).length ∧ (∀ i, i < t1 → ¬ (m1.1 15 i = 0 ∧ m1.1 16 i = 0)) ∧ sw c c1 m m1 := by
  obtain ⟨h4, hc, hm, hQ, hT⟩ := id H
  exact z_sweepl N hN h4 m h 0 0 N N c m (by omega) (by omega) (by omega) (by omega) hc hm hT (fun i hi => by omega) (fun i _ hi => hQ i hi) (fun i _ _ => ⟨rfl, rfl⟩) rfl rfl (fun i hi => by omega)

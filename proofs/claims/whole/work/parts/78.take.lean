/-! The loop that takes a picture in, against keep's, and all of keep behind the key picture's part. -/
theorem c_gone (N : Nat) {w : Nat} (hw : w ≠ 0) (x3 : Int32) (c : bp_M) : bc_PB_admit_L19 N 10 w 1 x3 c = some c := by
  obtain ⟨w, rfl⟩ := Nat.exists_eq_succ_of_ne_zero hw
  rw [bc_PB_admit_L19]
  simp only [bc_PB_admit_L107, bp_10, not_false_iff, if_true, bc_PB_admit_L142]
  split
  · rfl
  · split <;> rfl
theorem m_gone (N : Nat) (a1 a2 a3 : Int32) {w : Nat} (hw : w ≠ 0) (x6 : Int32) (m : bp_M) : bm_M_keep_L129 N a1 a2 a3 w 1 x6 m = some m := by
  obtain ⟨w, rfl⟩ := Nat.exists_eq_succ_of_ne_zero hw
  rw [bm_M_keep_L129]
  simp only [bm_M_keep_L234, bp_10, not_false_iff, if_true, bm_M_keep_L327]
  split
  · rfl
  · split <;> rfl
/-- nothing to sweep -/
theorem bp_rid (m : bp_M) (o k : Nat) : bp_sR m o k (m.2 o k) = m := Prod.ext rfl (funext fun x => funext fun y => by
  rw [bp_r2]
  split
  · rename_i h; rw [h.1, h.2]
  · rfl)
theorem c_swid (N : Nat) {h : Nat} {c m : bp_M} (H : bQ h c m) (hn : ∀ i, i < h → ¬ (m.1 15 i = 0 ∧ m.1 16 i = 0)) : ∀ (j k w : Nat), k + j = h → j < w → bc_PB_sweep_L4 N w (Int32.ofNat k) (Int32.ofNat k) c = some c := by
  obtain ⟨h4, hc, hm, hQ, hT⟩ := id H
  intro j
  induction j with
  | zero =>
    intro k w hk hw
    obtain ⟨w, rfl⟩ := Nat.exists_eq_succ_of_ne_zero (by omega : w ≠ 0)
    obtain rfl : k = h := by omega
    have e : Int32.ofNat k ≤ Int32.ofNat k := (bp_le (by omega) (by omega)).mpr (by omega)
    have es : bp_sI c 4 1 (Int32.ofNat k) = c := by
      have := bp_sid c 4 1
      rw [hc] at this
      exact this
    rw [bc_PB_sweep_L4, hc, if_pos e]
    simp only [bc_PB_sweep_L61, bp_nM, es]
  | succ j ih =>
    intro k w hk hw
    obtain ⟨w, rfl⟩ := Nat.exists_eq_succ_of_ne_zero (by omega : w ≠ 0)
    have e : ¬ Int32.ofNat h ≤ Int32.ofNat k := fun e => by have := (bp_le (by omega) (by omega)).mp e; omega
    have k4 : vp_in (Int32.ofNat k) 4 := bp_in (by omega) (by omega)
    have tk : (Int32.ofNat k).toNatClampNeg = k := bp_tn (by omega)
    have pk := H.pi (show k < 4 by omega)
    obtain ⟨-, -, o3, -, o5, -⟩ := hQ k (by omega)
    have E33 : bc_PB_sweep_L33 (bc_PB_sweep_L4 N w) N (Int32.ofNat k) (Int32.ofNat k) (c.2 40 k) c = some c := by
      simp only [bc_PB_sweep_L33, bp_git k4, tk, bp_nN, bp_gt pk, bp_nM, bp_rid, bp_nI, bp_inc, bc_PB_sweep_L55]
      exact ih (k + 1) w (by omega) (by omega)
    rw [bc_PB_sweep_L4, hc, if_neg e]
    simp only [bp_git k4, tk, bp_nN, bp_gt pk, o3, o5, E33]
    by_cases z1 : m.1 15 k = 0
    · rw [if_neg (fun hn => hn z1), if_neg (fun z2 => hn k (by omega) ⟨z1, z2⟩)]
    · rw [if_pos z1]
theorem m_68id (N : Nat) (r4 : Int32 → Int32 → bp_M → Option bp_M) {k : Nat} (hk : k < 4) (m : bp_M) : ∀ (j i w : Nat), i + j = 256 → j < w → bm_M_clean_L68 r4 N w (Int32.ofNat k) (Int32.ofNat k) (Int32.ofNat i) m = r4 (Int32.ofNat (k + 1)) (Int32.ofNat (k + 1)) m := by
  intro j
  induction j with
  | zero =>
    intro i w hi hw
    obtain ⟨w, rfl⟩ := Nat.exists_eq_succ_of_ne_zero (by omega : w ≠ 0)
    obtain rfl : i = 256 := by omega
    rw [bm_M_clean_L68, if_pos (by decide)]
    simp only [bm_M_clean_L105, bm_M_clean_L108, bp_nI, bp_inc]
  | succ j ih =>
    intro i w hi hw
    obtain ⟨w, rfl⟩ := Nat.exists_eq_succ_of_ne_zero (by omega : w ≠ 0)
    have e0 : ¬ (256 : Int32) ≤ Int32.ofNat i := fun e => by have := (bp_le (a := 256) (by omega) (by omega)).mp e; omega
    have i1 : vp_in (Int32.ofNat (256 * k + i)) 1024 := bp_in (by omega) (by omega)
    rw [bm_M_clean_L68, if_neg e0]
    simp only [x256, bp_add, bp_git i1, bp_tn (show 256 * k + i < 2147483648 by omega), bp_nM, bp_sid, bp_nI, bp_inc]
    exact ih (i + 1) w (by omega) (by omega)
theorem m_swid (N : Nat) (hN : 4000 ≤ N) {h : Nat} {c m : bp_M} (H : bQ h c m) (hn : ∀ i, i < h → ¬ (m.1 15 i = 0 ∧ m.1 16 i = 0)) : ∀ (j k w : Nat), k + j = h → j < w → bm_M_clean_L4 N w (Int32.ofNat k) (Int32.ofNat k) m = some m := by
  obtain ⟨h4, hc, hm, hQ, hT⟩ := id H
  intro j
  induction j with
  | zero =>
    intro k w hk hw
    obtain ⟨w, rfl⟩ := Nat.exists_eq_succ_of_ne_zero (by omega : w ≠ 0)
    obtain rfl : k = h := by omega
    have e : Int32.ofNat k ≤ Int32.ofNat k := (bp_le (by omega) (by omega)).mpr (by omega)
    have es : bp_sI m 0 34 (Int32.ofNat k) = m := by
      have := bp_sid m 0 34
      rw [hm] at this
      exact this
    rw [bm_M_clean_L4, hm, if_pos e]
    simp only [bm_M_clean_L114, bp_nM, es]
  | succ j ih =>
    intro k w hk hw
    obtain ⟨w, rfl⟩ := Nat.exists_eq_succ_of_ne_zero (by omega : w ≠ 0)
    have e : ¬ Int32.ofNat h ≤ Int32.ofNat k := fun e => by have := (bp_le (by omega) (by omega)).mp e; omega
    have k4 : vp_in (Int32.ofNat k) 4 := bp_in (by omega) (by omega)
    have tk : (Int32.ofNat k).toNatClampNeg = k := bp_tn (by omega)
    obtain ⟨-, -, -, o4, -, o6, -⟩ := hQ k (by omega)
    have E30 : bm_M_clean_L30 (bm_M_clean_L4 N w) N (Int32.ofNat k) (Int32.ofNat k) m = some m := by
      simp only [bm_M_clean_L30, bp_git k4, tk, bp_nM, bp_sid]
      rw [bp_gt (show m.1 15 k = 0 ∨ m.1 15 k = 1 from o4), bp_gt (show m.1 16 k = 0 ∨ m.1 16 k = 1 from o6)]
      have := m_68id N (bm_M_clean_L4 N w) (show k < 4 by omega) m 256 0 N (by omega) (by omega)
      exact this.trans (ih (k + 1) w (by omega) (by omega))
    rw [bm_M_clean_L4, hm, if_neg e]
    simp only [bp_git k4, tk, E30]
    by_cases z1 : m.1 15 k = 0
    · rw [if_neg (fun hn => hn z1), if_neg (fun z2 => hn k (by omega) ⟨z1, z2⟩)]
    · rw [if_pos z1]
/-- turns that change nothing -/
theorem c_idle (N : Nat) {c : bp_M} (hl : bc_PB_leastWaiting N c = some (-1, c)) (hsw : bc_PB_sweep N c = some c) (hi : ¬ c.1 10 2 = 0) : ∀ (j t w : Nat), t + j = 5 → j < w → bc_PB_admit_L19 N 10 w 0 (Int32.ofNat t) c = bc_PB_admit_L107 N 10 0 c := by
  have hsl : bc_PB_showLeast N c = some c := by simp only [bc_PB_showLeast, hl, bp_cI, if_true, bc_PB_showLeast_L30]
  intro j
  induction j with
  | zero =>
    intro t w ht hw
    obtain ⟨w, rfl⟩ := Nat.exists_eq_succ_of_ne_zero (by omega : w ≠ 0)
    obtain rfl : t = 5 := by omega
    rw [bc_PB_admit_L19, if_pos (by decide)]
  | succ j ih =>
    intro t w ht hw
    obtain ⟨w, rfl⟩ := Nat.exists_eq_succ_of_ne_zero (by omega : w ≠ 0)
    rw [bc_PB_admit_L19]
    split
    · rfl
    · split
      · rfl
      · rw [if_neg (fun hn => hn rfl), hl]
        simp only [bp_cI, hi, not_false_iff, if_true, bc_PB_admit_L79, bc_PB_admit_L80, hsl, bp_cV, hsw, bc_PB_admit_L101, bp_nI, bp_inc]
        exact ih (t + 1) w (by omega) (by omega)
theorem m_idle (N : Nat) (a1 a2 a3 : Int32) {m : bp_M} (hl : bm_M_first N m = some (-1, m)) (hsw : bm_M_clean N m = some m) (hi : ¬ a3 = 0) : ∀ (j t w : Nat), t + j = 10 → j < w → bm_M_keep_L129 N a1 a2 a3 w 0 (Int32.ofNat t) m = bm_M_keep_L234 N a1 a2 a3 0 m := by
  have e0 : ¬ (0 : Int32) ≤ -1 := by decide
  have hsl : bm_M_showFirst N m = some m := by simp only [bm_M_showFirst, hl, bp_cI, if_neg e0]
  intro j
  induction j with
  | zero =>
    intro t w ht hw
    obtain ⟨w, rfl⟩ := Nat.exists_eq_succ_of_ne_zero (by omega : w ≠ 0)
    obtain rfl : t = 10 := by omega
    rw [bm_M_keep_L129, if_pos (by decide)]
  | succ j ih =>
    intro t w ht hw
    obtain ⟨w, rfl⟩ := Nat.exists_eq_succ_of_ne_zero (by omega : w ≠ 0)
    rw [bm_M_keep_L129]
    split
    · rfl
    · split
      · rfl
      · rw [if_neg (fun hn => hn rfl), hl]
        simp only [bp_cI, hi, not_false_iff, if_true, bm_M_keep_L220, hsl, bp_cV, hsw, bm_M_keep_L228, bp_nI, bp_inc]
        exact ih (t + 1) w (by omega) (by omega)
theorem z_adm (N : Nat) (hN : 4000 ≤ N) {P : Nat} (hP4 : P ≤ 4) (key : Int32) {ord isr : Int32} : ∀ (u t w w2 h S : Nat) (c m : bp_M), wq m h ≤ u → t + u ≤ 4 → u + 100 < w → u + 100 < w2 → S + u ≤ 1000000000 → bQ h c m → jSS S c m → zW ord isr c m → (∀ i, i < h → ¬ (m.1 15 i = 0 ∧ m.1 16 i = 0)) → c.1 4 2 = Int32.ofNat P → m.1 0 17 = Int32.ofNat P → ∃ c1 m1 h1, bc_PB_admit_L19 N 10 w 0 (Int32.ofNat t) c = some c1 ∧ bm_M_keep_L129 N key ord isr w2 0 (Int32.ofNat t) m = some m1 ∧ bQ h1 c1 m1 ∧ jSS (S + u + 1) c1 m1 ∧ kF c c1 ∧ kG m m1 := by
  intro u
  induction u with
  | zero =>
    intro t w w2 h S c m hu ht hw hw2 hS H hs hz hn hcP hmP
    obtain ⟨h4, hc, hm, hQ, hT⟩ := id H
    have place : h < 4 → ∃ c1 m1 h1, bc_PB_admit_L107 N 10 0 c = some c1 ∧ bm_M_keep_L234 N key ord isr 0 m = some m1 ∧ bQ h1 c1 m1 ∧ jSS (S + 0 + 1) c1 m1 ∧ kF c c1 ∧ kG m m1 := fun hlt => by
      obtain ⟨c1, m1, q1, q2, q3, q4, q5, q6, q7, q8, q9, q10, q11⟩ := z_place2 N hN hlt key H hz
      refine ⟨c1, m1, h + 1, q1, q2, q3, ?_, q4, q5⟩
      have := hs.up (show S ≤ S + 0 + 1 by omega)
      unfold jSS at this ⊢
      simp only [q6, q7, q8, q9, q10, q11]
      exact this
    obtain ⟨r, r1, r2, r3⟩ := b_first N hN H
    obtain ⟨r', s1, s2⟩ := m_firstS N hN h4 hm
    have hrr : r' = r := by rw [r2] at s1; cases s1; rfl
    subst hrr
    have hr1 : r' = -1 := by
      rcases s2 with ⟨s2, s3⟩ | ⟨b, b1, b2, b3⟩
      · exact s2
      · have := wq_p h b b1 b3
        omega
    subst hr1
    by_cases hi : isr = 0
    · obtain ⟨w, rfl⟩ := Nat.exists_eq_succ_of_ne_zero (by omega : w ≠ 0)
      obtain ⟨w2, rfl⟩ := Nat.exists_eq_succ_of_ne_zero (by omega : w2 ≠ 0)
      have e4 : ¬ (4 : Int32) < Int32.ofNat t := fun e => by have := (bp_lt (a := 4) (by omega) (by omega)).mp e; omega
      have e10 : ¬ (10 : Int32) ≤ Int32.ofNat t := fun e => by have := (bp_le (a := 10) (by omega) (by omega)).mp e; omega
      by_cases hP : h < P
      · have eP : Int32.ofNat h < Int32.ofNat P := (bp_lt (by omega) (by omega)).mpr hP
        rw [bc_PB_admit_L19, if_neg e4, hc, hcP, if_pos eP, bm_M_keep_L129, if_neg e10, hm, hmP, if_pos eP]
        exact place (by omega)
      · have eP : ¬ Int32.ofNat h < Int32.ofNat P := fun e => hP ((bp_lt (by omega) (by omega)).mp e)
        obtain ⟨c1, m1, q1, q2, q3, q4, q5, q6⟩ := z_passby N hN (by omega) key (bm_M_keep_L129 N key ord isr w2) (Int32.ofNat t) H hs hz
        refine ⟨c1, m1, h, ?_, ?_, q3, q4, q5, q6⟩
        · rw [bc_PB_admit_L19, if_neg e4, hc, hcP, if_neg eP, if_neg (fun hn => hn rfl), r1]
          simp only [bp_cI, hz.2.2.1, hi, not_true, if_false, if_true, bc_PB_admit_L75, bc_PB_admit_L80, bp_10, q1, bp_cV, bc_PB_admit_L101, bp_nI]
          exact c_gone N (by omega) _ _
        · rw [bm_M_keep_L129, if_neg e10, hm, hmP, if_neg eP, if_neg (fun hn => hn rfl), r2]
          simp only [bp_cI]
          rw [if_neg (fun hn => hn hi), if_pos (by decide), q2]
          exact m_gone N _ _ _ (by omega) _ _
    · rw [c_idle N r1 (c_swid N H hn h 0 N (by omega) (by omega)) (by rw [hz.2.2.1]; exact hi) (5 - t) t w (by omega) (by omega), m_idle N key ord isr r2 (m_swid N hN H hn h 0 N (by omega) (by omega)) hi (10 - t) t w2 (by omega) (by omega)]
      by_cases hlt : h < 4
      · exact place hlt
      · have e4 : (4 : Int32) ≤ Int32.ofNat h := (bp_le (a := 4) (by omega) (by omega)).mpr (by omega)
        refine ⟨c, m, h, ?_, ?_, H, hs.up (by omega), kF.rf _, kG.rf _⟩
        · simp only [bc_PB_admit_L107, not_true, if_false, hc, if_pos e4, bc_PB_admit_L142]
        · simp only [bm_M_keep_L234, not_true, if_false, hm, if_pos e4, bm_M_keep_L327]
  | succ u ih =>
    intro t w w2 h S c m hu ht hw hw2 hS H hs hz hn hcP hmP
    by_cases hw0 : wq m h = 0
    · -- nobody waits: as with none left
      obtain ⟨c1, m1, h1, q1, q2, q3, q4, q5, q6⟩ := ih t w w2 h S c m (by omega) (by omega) (by omega) (by omega) (by omega) H hs hz hn hcP hmP
      exact ⟨c1, m1, h1, q1, q2, q3, q4.up (by omega), q5, q6⟩
    obtain ⟨h4, hc, hm, hQ, hT⟩ := id H
    obtain ⟨w, rfl⟩ := Nat.exists_eq_succ_of_ne_zero (by omega : w ≠ 0)
    obtain ⟨w2, rfl⟩ := Nat.exists_eq_succ_of_ne_zero (by omega : w2 ≠ 0)
    have e4 : ¬ (4 : Int32) < Int32.ofNat t := fun e => by have := (bp_lt (a := 4) (by omega) (by omega)).mp e; omega
    have e10 : ¬ (10 : Int32) ≤ Int32.ofNat t := fun e => by have := (bp_le (a := 10) (by omega) (by omega)).mp e; omega
    by_cases hP : h < P
    · have eP : Int32.ofNat h < Int32.ofNat P := (bp_lt (by omega) (by omega)).mpr hP
      obtain ⟨c1, m1, q1, q2, q3, q4, q5, q6, q7, q8, q9, q10, q11⟩ := z_place2 N hN (show h < 4 by omega) key H hz
      refine ⟨c1, m1, h + 1, ?_, ?_, q3, ?_, q4, q5⟩
      · rw [bc_PB_admit_L19, if_neg e4, hc, hcP, if_pos eP]; exact q1
      · rw [bm_M_keep_L129, if_neg e10, hm, hmP, if_pos eP]; exact q2
      · have := hs.up (show S ≤ S + (u + 1) + 1 by omega)
        unfold jSS at this ⊢
        simp only [q6, q7, q8, q9, q10, q11]
        exact this
    · have eP : ¬ Int32.ofNat h < Int32.ofNat P := fun e => hP ((bp_lt (by omega) (by omega)).mp e)
      obtain ⟨r, r1, r2, r3⟩ := b_first N hN H
      obtain ⟨r', s1, s2⟩ := m_firstS N hN h4 hm
      have hrr : r' = r := by rw [r2] at s1; cases s1; rfl
      subst hrr
      obtain ⟨b, b1, b2, b3⟩ : ∃ b : Nat, b < h ∧ r' = Int32.ofNat b ∧ ¬ m.1 16 b = 0 := by
        rcases s2 with ⟨s2, s3⟩ | s2
        · exact absurd (wq_0 h s3) hw0
        · exact s2
      -- one more turn
      have turn : ∃ c1 m1 h1, bc_PB_admit_L79 (bc_PB_admit_L19 N 10 w) N 10 (Int32.ofNat t) c = some c1 ∧ bm_M_keep_L220 (bm_M_keep_L129 N key ord isr w2) N key ord isr 0 (Int32.ofNat t) m = some m1 ∧ bQ h1 c1 m1 ∧ jSS (S + (u + 1) + 1) c1 m1 ∧ kF c c1 ∧ kG m m1 := by
        obtain ⟨c1, m1, c2, m2, h2, q1, q2, q3, q4, q5, q6, q7, q8, q9, q10, q11⟩ := z_turn N hN (by omega) H hs (by omega)
        obtain ⟨c3, m3, h3, p1, p2', p3, p4, p5, p6⟩ := ih (t + 1) w w2 h2 (S + 1) c2 m2 (by omega) (by omega) (by omega) (by omega) (by omega) q5 q6 (hz.of q10 q11) q9 (by rw [q10.2.2 2 (by decide) (by decide)]; exact hcP) (by rw [q11.2 17 (by decide) (by decide)]; exact hmP)
        refine ⟨c3, m3, h3, ?_, ?_, p3, by rw [show S + (u + 1) + 1 = S + 1 + u + 1 by omega]; exact p4, q10.tr p5, q11.tr p6⟩
        · simp only [bc_PB_admit_L79, bc_PB_admit_L80, if_true, q1, bp_cV, q3, bc_PB_admit_L101, bp_nI, bp_inc]
          exact p1
        · simp only [bm_M_keep_L220, q2, bp_cV, q4, bm_M_keep_L228, bp_nI, bp_inc]
          exact p2'
      have pass : ∃ c1 m1 h1, bc_PB_admit_L75 (bc_PB_admit_L19 N 10 w) N 10 (Int32.ofNat t) c = some c1 ∧ bm_M_keep_L178 (bm_M_keep_L129 N key ord isr w2) N key ord isr (Int32.ofNat t) m = some m1 ∧ bQ h1 c1 m1 ∧ jSS (S + (u + 1) + 1) c1 m1 ∧ kF c c1 ∧ kG m m1 := by
        obtain ⟨c1, m1, q1, q2, q3, q4, q5, q6⟩ := z_passby N hN (by omega) key (bm_M_keep_L129 N key ord isr w2) (Int32.ofNat t) H hs hz
        refine ⟨c1, m1, h, ?_, ?_, q3, q4.up (by omega), q5, q6⟩
        · simp only [bc_PB_admit_L75, bc_PB_admit_L80, bp_10, if_false, q1, bp_cV, bc_PB_admit_L101, bp_nI]
          exact c_gone N (by omega) _ _
        · rw [q2]
          exact m_gone N _ _ _ (by omega) _ _
      have ne1 : ¬ r' = -1 := fun e => by
        have h1 : (-1 : Int32) < 0 := by decide
        rw [← e, b2] at h1
        exact bp_nneg (by omega) h1
      have nl : ¬ r' < 0 := by rw [b2]; exact bp_nneg (by omega)
      have b4 : vp_in r' 4 := by rw [b2]; exact bp_in (by omega) (by omega)
      have tb : r'.toNatClampNeg = b := by rw [b2]; exact bp_tn (by omega)
      have pB := H.pi (show b < 4 by omega)
      have EC : bc_PB_admit_L19 N 10 (w + 1) 0 (Int32.ofNat t) c = if ¬ isr = 0 then bc_PB_admit_L79 (bc_PB_admit_L19 N 10 w) N 10 (Int32.ofNat t) c else if m.1 14 b ≤ ord then bc_PB_admit_L79 (bc_PB_admit_L19 N 10 w) N 10 (Int32.ofNat t) c else bc_PB_admit_L75 (bc_PB_admit_L19 N 10 w) N 10 (Int32.ofNat t) c := by
        rw [bc_PB_admit_L19, if_neg e4, hc, hcP, if_neg eP, if_neg (fun hn => hn rfl), r1]
        simp only [bp_cI, hz.2.2.1, hz.1, if_neg ne1, bp_git b4, tb, bp_nN, bp_gt pB, (hQ b b1).1]
      have EM : bm_M_keep_L129 N key ord isr (w2 + 1) 0 (Int32.ofNat t) m = if ¬ isr = 0 then bm_M_keep_L220 (bm_M_keep_L129 N key ord isr w2) N key ord isr 0 (Int32.ofNat t) m else if m.1 14 b ≤ ord then bm_M_keep_L220 (bm_M_keep_L129 N key ord isr w2) N key ord isr 0 (Int32.ofNat t) m else bm_M_keep_L178 (bm_M_keep_L129 N key ord isr w2) N key ord isr (Int32.ofNat t) m := by
        rw [bm_M_keep_L129, if_neg e10, hm, hmP, if_neg eP, if_neg (fun hn => hn rfl), r2]
        simp only [bp_cI, if_neg nl, bp_git b4, tb]
      rw [EC, EM]
      by_cases hi : isr = 0
      · simp only [hi, not_true, if_false]
        by_cases ho : m.1 14 b ≤ ord
        · simp only [if_pos ho]
          rw [hi] at turn
          exact turn
        · simp only [if_neg ho]
          rw [hi] at pass
          exact pass
      · simp only [hi, not_false_iff, if_true]
        exact turn
/-- a picture taken in, against keep, behind the references' marks -/
theorem z_admit (N : Nat) (hN : 4000 ≤ N) {P : Nat} (hP1 : 1 ≤ P) (hP4 : P ≤ 4) (key : Int32) {ord isr : Int32} {h S : Nat} (hS : S ≤ 900000000) {c m : bp_M} (H : bQ h c m) (hs : jSS S c m) (hz : zW ord isr c m) (hcP : c.1 4 2 = Int32.ofNat P) (hmP : m.1 0 17 = Int32.ofNat P) : ∃ c1 m1 h1, bc_PB_admit N 10 c = some c1 ∧ bm_M_keep_L86 N key ord isr m = some m1 ∧ bQ h1 c1 m1 ∧ jSS (S + 5) c1 m1 ∧ kF c c1 ∧ kG m m1 := by
  obtain ⟨h4, hc, hm, hQ, hT⟩ := id H
  have hl := rl_len m h
  -- behind the marks: sweep and the loop
  have tail : ∀ c0 m0 : bp_M, bQ h c0 m0 → jSS S c0 m0 → zW ord isr c0 m0 → c0.1 4 2 = Int32.ofNat P → m0.1 0 17 = Int32.ofNat P → ∃ c1 m1 h1, bc_PB_admit_L11 N 10 c0 = some c1 ∧ bm_M_keep_L119 N key ord isr m0 = some m1 ∧ bQ h1 c1 m1 ∧ jSS (S + 5) c1 m1 ∧ kF c0 c1 ∧ kG m0 m1 := fun c0 m0 H0 hs0 hz0 hcP0 hmP0 => by
    obtain ⟨c1, m1, t1, q1, q2, q3, q4, q5, q6, q7, q8⟩ := z_sweep N hN H0
    have hs1 : jSS S c1 m1 := by
      unfold jSS at hs0 ⊢
      simp only [q8.1 4 5 (by decide), q8.1 21 _ (fun e => absurd e.1 (by decide)), q8.1 20 _ (fun e => absurd e.1 (by decide)), q8.2.2.2 39 (by decide), q8.2.2.1 17 (by decide) (by omega), q8.2.2.1 18 (by decide) (by omega)]
      exact hs0
    have hwq : wq m1 t1 ≤ 4 := by have := wq_le m1 t1; omega
    obtain ⟨c2, m2, h2, p1, p2', p3, p4, p5, p6⟩ := z_adm N hN hP4 key 4 0 N N t1 S c1 m1 hwq (by omega) (by omega) (by omega) (by omega) q3 hs1 (hz0.of q8.k.1 q8.k.2) q7 (by rw [q8.1 4 2 (by decide)]; exact hcP0) (by rw [q8.2.2.2 17 (by decide)]; exact hmP0)
    refine ⟨c2, m2, h2, ?_, ?_, p3, p4, q8.k.1.tr p5, q8.k.2.tr p6⟩
    · simp only [bc_PB_admit_L11, q1, bp_cV]
      exact p1
    · simp only [bm_M_keep_L119, q2, bp_cV]
      exact p2'
  have e86 : bm_M_keep_L86 N key ord isr m = if isr = 0 then bm_M_keep_L119 N key ord isr m else if Int32.ofNat (rl m h).length < Int32.ofNat P then bm_M_keep_L119 N key ord isr m else bp_cI (bm_M_reference N (Int32.ofNat (rl m h).length - 1) m) fun z4 m3 => bp_gi z4 4 <| bp_g ((0 : Int32) = 0 ∨ (0 : Int32) = 1) <| bp_nM (bp_sI m3 15 z4.toNatClampNeg 0) fun m5 => bm_M_keep_L119 N key ord isr m5 := by
    unfold bm_M_keep_L86
    rw [m_refs N hN h4 hm]
    simp only [bp_cI, hmP]
  rw [e86]
  unfold bc_PB_admit
  rw [hz.2.2.1]
  by_cases hi : isr = 0
  · rw [if_pos hi, if_pos hi]
    exact tail c m H hs hz hcP hmP
  · rw [if_neg hi, if_neg hi]
    have er : bc_PB_makeRoomForReference N c = bc_PB_makeRoomForReference_L38 N (la m h (-1)) (Int32.ofNat (0 + (rl m h).length)) c := by
      simp only [bc_PB_makeRoomForReference, hc, bp_nI, bp_sub1]
      exact c_room N H h N 0 (-1) (Nat.le_refl h) (by omega) (by omega)
    by_cases hp : (rl m h).length < P
    · rw [if_pos ((bp_lt (by omega) (by omega)).mpr hp), er]
      have e38 : bc_PB_makeRoomForReference_L38 N (la m h (-1)) (Int32.ofNat (0 + (rl m h).length)) c = some c := by
        unfold bc_PB_makeRoomForReference_L38
        rw [hcP, if_pos (show Int32.ofNat (0 + (rl m h).length) < Int32.ofNat P from (bp_lt (by omega) (by omega)).mpr (by omega))]
        split <;> rfl
      rw [e38]
      exact tail c m H hs hz hcP hmP
    · have hlen : 1 ≤ (rl m h).length := by omega
      obtain ⟨i, hi2⟩ : ∃ i, (rl m h)[(rl m h).length - 1]? = some i := ⟨_, List.getElem?_eq_getElem (by omega)⟩
      have hib := rl_b h _ i hi2
      have i4 : vp_in (Int32.ofNat i) 4 := bp_in (by omega) (by omega)
      have ti : (Int32.ofNat i).toNatClampNeg = i := bp_tn (by omega)
      have pI := H.pi (show i < 4 by omega)
      have ne1 : ¬ Int32.ofNat i = -1 := fun e => by
        have h1 : (-1 : Int32) < 0 := by decide
        rw [← e] at h1
        exact bp_nneg (by omega) h1
      have e38 : bc_PB_makeRoomForReference_L38 N (la m h (-1)) (Int32.ofNat (0 + (rl m h).length)) c = some (bp_sI c (c.2 40 i) 2 0) := by
        unfold bc_PB_makeRoomForReference_L38
        rw [la_l h (-1) i hi2, if_neg ne1, hcP, if_neg (show ¬ Int32.ofNat (0 + (rl m h).length) < Int32.ofNat P from fun e => by have := (bp_lt (by omega) (by omega)).mp e; omega), bp_git i4, ti]
        simp only [bp_nN, bp_gt pI, bp_g, true_or, if_true, bp_nM, bc_PB_makeRoomForReference_L61, if_pos pI]
      have em : bm_M_reference N (Int32.ofNat (rl m h).length - 1) m = some (Int32.ofNat i, m) := by
        rw [show Int32.ofNat (rl m h).length - 1 = Int32.ofNat ((rl m h).length - 1) from bp_sub (b := 1) hlen]
        exact m_reference N hN h4 hm hi2
      rw [if_neg (fun e => hp ((bp_lt (by omega) (by omega)).mp e)), er, e38, em]
      simp only [bp_cI, bp_cV, bp_git i4, ti, bp_g, true_or, if_true, bp_nM]
      have hTi := hT.1 i (by omega)
      have f1 : kF c (bp_sI c (c.2 40 i) 2 0) := ⟨fun _ _ _ => rfl, fun x _ _ _ a _ y => bp_s1o _ _ _ _ (by omega) y, fun y _ _ => bp_s1o _ _ _ _ (by omega) y⟩
      have f2 : kG m (bp_sI m 15 i 0) := ⟨fun x _ a y => bp_s1o _ _ _ _ (by omega) y, fun y _ _ => bp_s1o _ _ _ _ (by decide) y⟩
      obtain ⟨c1, m1, h1, q1, q2, q3, q4, q5, q6⟩ := tail (bp_sI c (c.2 40 i) 2 0) (bp_sI m 15 i 0) (H.um hib.1) (by
        unfold jSS at hs ⊢
        have a4 : ∀ y, (bp_sI c (c.2 40 i) 2 0).1 4 y = c.1 4 y := fun y => bp_s1o _ _ _ _ (by omega) y
        have a20 : ∀ y, (bp_sI c (c.2 40 i) 2 0).1 20 y = c.1 20 y := fun y => bp_s1o _ _ _ _ (by omega) y
        have a21 : ∀ y, (bp_sI c (c.2 40 i) 2 0).1 21 y = c.1 21 y := fun y => bp_s1o _ _ _ _ (by omega) y
        simp only [a4, a20, a21, bp_s1o _ _ _ _ (show (0 : Nat) ≠ 15 by decide), bp_s1o _ _ _ _ (show (17 : Nat) ≠ 15 by decide), bp_s1o _ _ _ _ (show (18 : Nat) ≠ 15 by decide)]
        exact hs) (hz.of f1 f2) (by rw [bp_s1o _ _ _ _ (by omega)]; exact hcP) (by rw [bp_s1o _ _ _ _ (by decide)]; exact hmP)
      exact ⟨c1, m1, h1, q1, q2, q3, q4, f1.tr q5, f2.tr q6⟩

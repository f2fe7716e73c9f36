/-! Motion of the class: window, taps, a block's prediction. -/
theorem pI_34 {q : Nat} (h : isPI q) : bc_isI (q + 24) = true ∧ bc_len (q + 24) = 256 := by
  obtain ⟨h1, h2⟩ := h
  rcases (show q = 10 ∨ q = 11 ∨ q = 12 ∨ q = 13 ∨ q = 14 by omega) with rfl | rfl | rfl | rfl | rfl <;> exact ⟨by decide, by decide⟩
theorem c_fwi (N : Nat) (r : Int32 → bp_M → Option bp_M) {a : Nat} (ha : bc_isI a = true) (hl : bc_len a = 256) (h17 : a ≠ 17) (u v : Int32) {Y : Nat} (hY : Y < 9) : ∀ (j X n : Nat) (c : bp_M), X + j = 9 → j < n → ∃ c1, bc_MO_fillWindow_L28 r N a u v n (Int32.ofNat Y) (Int32.ofNat (cl (v + Int32.ofNat Y))) (Int32.ofNat X) c = r (Int32.ofNat (Y + 1)) c1 ∧ cF [17] c c1 ∧ (∀ i, i < 9 * Y + X → c1.1 17 i = c.1 17 i) ∧ ∀ x, X ≤ x → x < 9 → c1.1 17 (9 * Y + x) = sS (c.1 a) (u + Int32.ofNat x) (v + Int32.ofNat Y) := by
  intro j
  induction j with
  | zero =>
    intro X n c hX hn
    obtain ⟨n, rfl⟩ := Nat.exists_eq_succ_of_ne_zero (by omega : n ≠ 0)
    obtain rfl : X = 9 := by omega
    refine ⟨c, ?_, cF.rf _ _, fun _ _ => rfl, fun x h1 h2 => by omega⟩
    rw [bc_MO_fillWindow_L28, if_pos (by decide)]
    simp only [bc_MO_fillWindow_L79, bp_nI, bp_inc]
  | succ j ih =>
    intro X n c hX hn
    obtain ⟨n, rfl⟩ := Nat.exists_eq_succ_of_ne_zero (by omega : n ≠ 0)
    have l1 := cl_lt (u + Int32.ofNat X)
    have l2 := cl_lt (v + Int32.ofNat Y)
    have i1 : vp_in (Int32.ofNat (16 * cl (v + Int32.ofNat Y) + cl (u + Int32.ofNat X))) (bc_len a) := by rw [hl]; exact bp_in (by omega) (by omega)
    have i2 : vp_in (Int32.ofNat (9 * Y + X)) 81 := bp_in (by omega) (by omega)
    obtain ⟨c1, q1, q2, q3, q4⟩ := ih (X + 1) n (bp_sI c 17 (9 * Y + X) (sS (c.1 a) (u + Int32.ofNat X) (v + Int32.ofNat Y))) (by omega) (by omega)
    refine ⟨c1, ?_, ((cF.rf [17] c).s _ (by decide)).tr q2, fun i hi => ?_, fun x h1 h2 => ?_⟩
    · rw [bc_MO_fillWindow_L28, if_neg (ge9 (by omega))]
      simp only [cl_c, bp_nI, bp_gt ha, x16, x9, bp_add, bp_git i1, bp_git i2, bp_tn (show 16 * cl (v + Int32.ofNat Y) + cl (u + Int32.ofNat X) < 2147483648 by omega), bp_tn (show 9 * Y + X < 2147483648 by omega), bp_nM, bp_inc]
      exact q1
    · rw [q3 i (by omega), bp_s1k _ _ _ _ (by omega)]
    · by_cases he : x = X
      · subst he
        rw [q3 _ (by omega), bp_s1e]
      · rw [q4 x (by omega) h2]
        unfold sS
        rw [bp_s1o _ _ _ _ h17]
theorem c_fwo (N : Nat) (hN : 4000 ≤ N) {a : Nat} (ha : bc_isI a = true) (hl : bc_len a = 256) (h17 : a ≠ 17) (u v : Int32) : ∀ (j Y n : Nat) (c : bp_M), Y + j = 9 → j < n → ∃ c1, bc_MO_fillWindow_L3 N a u v n (Int32.ofNat Y) c = some c1 ∧ cF [17] c c1 ∧ (∀ i, i < 9 * Y → c1.1 17 i = c.1 17 i) ∧ ∀ y, Y ≤ y → y < 9 → ∀ x, x < 9 → c1.1 17 (9 * y + x) = sS (c.1 a) (u + Int32.ofNat x) (v + Int32.ofNat y) := by
  intro j
  induction j with
  | zero =>
    intro Y n c hY hn
    obtain ⟨n, rfl⟩ := Nat.exists_eq_succ_of_ne_zero (by omega : n ≠ 0)
    obtain rfl : Y = 9 := by omega
    refine ⟨c, ?_, cF.rf _ _, fun _ _ => rfl, fun x h1 h2 => by omega⟩
    rw [bc_MO_fillWindow_L3, if_pos (by decide)]
    rfl
  | succ j ih =>
    intro Y n c hY hn
    obtain ⟨n, rfl⟩ := Nat.exists_eq_succ_of_ne_zero (by omega : n ≠ 0)
    obtain ⟨c1, q1, q2, q3, q4⟩ := c_fwi N (bc_MO_fillWindow_L3 N a u v n) ha hl h17 u v (show Y < 9 by omega) 9 0 N c (by omega) (by omega)
    obtain ⟨c2, p1, p2, p3, p4⟩ := ih (Y + 1) n c1 (by omega) (by omega)
    refine ⟨c2, ?_, q2.tr p2, fun i hi => ?_, fun y h1 h2 x hx => ?_⟩
    · rw [bc_MO_fillWindow_L3, if_neg (ge9 (by omega))]
      simp only [cl_c, bp_nI]
      exact q1.trans p1
    · rw [p3 i (by omega), q3 i (by omega)]
    · by_cases he : y = Y
      · subst he
        rw [p3 _ (by omega), q4 x (by omega) hx]
      · rw [p4 y (by omega) h2 x hx]
        unfold sS
        rw [q2.2 a (by simpa using h17)]
theorem c_taps (N : Nat) {a : Nat} (ha : bc_isI a = true) {A s : Nat} (h1 : 2 * s ≤ A) (h2 : A + 3 * s < bc_len a) (h3 : bc_len a ≤ 256) (c : bp_M) : bc_MO_taps N a (Int32.ofNat A) (Int32.ofNat s) c = some (t6 (c.1 a (A - 2 * s)) (c.1 a (A - s)) (c.1 a A) (c.1 a (A + s)) (c.1 a (A + 2 * s)) (c.1 a (A + 3 * s)), c) := by
  have e1 : Int32.ofNat A - Int32.ofNat (2 * s) = Int32.ofNat (A - 2 * s) := bp_sub (by omega)
  have e2 : Int32.ofNat A - Int32.ofNat s = Int32.ofNat (A - s) := bp_sub (by omega)
  have x3 : 3 * Int32.ofNat s = Int32.ofNat (3 * s) := bp_mul 3 s
  have i1 : vp_in (Int32.ofNat (A - 2 * s)) (bc_len a) := bp_in (by omega) (by omega)
  have i2 : vp_in (Int32.ofNat (A - s)) (bc_len a) := bp_in (by omega) (by omega)
  have i3 : vp_in (Int32.ofNat A) (bc_len a) := bp_in (by omega) (by omega)
  have i4 : vp_in (Int32.ofNat (A + s)) (bc_len a) := bp_in (by omega) (by omega)
  have i5 : vp_in (Int32.ofNat (A + 2 * s)) (bc_len a) := bp_in (by omega) (by omega)
  have i6 : vp_in (Int32.ofNat (A + 3 * s)) (bc_len a) := bp_in (by omega) (by omega)
  simp only [bc_MO_taps, x2, x3, e1, e2, bp_add, bp_gt ha, bp_git i1, bp_git i2, bp_git i3, bp_git i4, bp_git i5, bp_git i6, bp_tn (show A - 2 * s < 2147483648 by omega), bp_tn (show A - s < 2147483648 by omega), bp_tn (show A < 2147483648 by omega), bp_tn (show A + s < 2147483648 by omega), bp_tn (show A + 2 * s < 2147483648 by omega), bp_tn (show A + 3 * s < 2147483648 by omega), t6]
theorem c_fai (N : Nat) (r : Int32 → bp_M → Option bp_M) {Y : Nat} (hY : Y < 9) : ∀ (j X n : Nat) (c : bp_M), X + j = 4 → j < n → ∃ c1, bc_MO_fillAcross_L10 r N n (Int32.ofNat Y) (Int32.ofNat X) c = r (Int32.ofNat (Y + 1)) c1 ∧ cF [18] c c1 ∧ (∀ i, i < 4 * Y + X → c1.1 18 i = c.1 18 i) ∧ ∀ x, X ≤ x → x < 4 → c1.1 18 (4 * Y + x) = t6 (c.1 17 (9 * Y + x)) (c.1 17 (9 * Y + x + 1)) (c.1 17 (9 * Y + x + 2)) (c.1 17 (9 * Y + x + 3)) (c.1 17 (9 * Y + x + 4)) (c.1 17 (9 * Y + x + 5)) := by
  intro j
  induction j with
  | zero =>
    intro X n c hX hn
    obtain ⟨n, rfl⟩ := Nat.exists_eq_succ_of_ne_zero (by omega : n ≠ 0)
    obtain rfl : X = 4 := by omega
    refine ⟨c, ?_, cF.rf _ _, fun _ _ => rfl, fun x h1 h2 => by omega⟩
    rw [bc_MO_fillAcross_L10, if_pos (by decide)]
    simp only [bc_MO_fillAcross_L47, bp_nI, bp_inc]
  | succ j ih =>
    intro X n c hX hn
    obtain ⟨n, rfl⟩ := Nat.exists_eq_succ_of_ne_zero (by omega : n ≠ 0)
    have i2 : vp_in (Int32.ofNat (4 * Y + X)) 36 := bp_in (by omega) (by omega)
    have et := c_taps N (a := 17) (by decide) (A := 9 * Y + X + 2) (s := 1) (by omega) (show _ < 81 by omega) (by decide) c
    rw [show Int32.ofNat 1 = 1 from rfl, show 9 * Y + X + 2 - 2 * 1 = 9 * Y + X by omega, show 9 * Y + X + 2 - 1 = 9 * Y + X + 1 by omega, show 9 * Y + X + 2 + 1 = 9 * Y + X + 3 by omega, show 9 * Y + X + 2 + 2 * 1 = 9 * Y + X + 4 by omega, show 9 * Y + X + 2 + 3 * 1 = 9 * Y + X + 5 by omega] at et
    obtain ⟨c1, q1, q2, q3, q4⟩ := ih (X + 1) n (bp_sI c 18 (4 * Y + X) (t6 (c.1 17 (9 * Y + X)) (c.1 17 (9 * Y + X + 1)) (c.1 17 (9 * Y + X + 2)) (c.1 17 (9 * Y + X + 3)) (c.1 17 (9 * Y + X + 4)) (c.1 17 (9 * Y + X + 5)))) (by omega) (by omega)
    refine ⟨c1, ?_, ((cF.rf [18] c).s _ (by decide)).tr q2, fun i hi => ?_, fun x h1 h2 => ?_⟩
    · rw [bc_MO_fillAcross_L10, if_neg (ge4 (by omega))]
      simp only [x9, x4, bp_add, p2, et, bp_cI, bp_git i2, bp_tn (show 4 * Y + X < 2147483648 by omega), bp_nM, bp_nI, bp_inc]
      exact q1
    · rw [q3 i (by omega), bp_s1k _ _ _ _ (by omega)]
    · by_cases he : x = X
      · subst he
        rw [q3 _ (by omega), bp_s1e]
      · rw [q4 x (by omega) h2]
        simp only [bp_s1o _ _ _ _ (show (17 : Nat) ≠ 18 by decide)]
theorem c_fao (N : Nat) (hN : 4000 ≤ N) : ∀ (j Y n : Nat) (c : bp_M), Y + j = 9 → j < n → ∃ c1, bc_MO_fillAcross_L2 N n (Int32.ofNat Y) c = some c1 ∧ cF [18] c c1 ∧ (∀ i, i < 4 * Y → c1.1 18 i = c.1 18 i) ∧ ∀ y, Y ≤ y → y < 9 → ∀ x, x < 4 → c1.1 18 (4 * y + x) = t6 (c.1 17 (9 * y + x)) (c.1 17 (9 * y + x + 1)) (c.1 17 (9 * y + x + 2)) (c.1 17 (9 * y + x + 3)) (c.1 17 (9 * y + x + 4)) (c.1 17 (9 * y + x + 5)) := by
  intro j
  induction j with
  | zero =>
    intro Y n c hY hn
    obtain ⟨n, rfl⟩ := Nat.exists_eq_succ_of_ne_zero (by omega : n ≠ 0)
    obtain rfl : Y = 9 := by omega
    refine ⟨c, ?_, cF.rf _ _, fun _ _ => rfl, fun x h1 h2 => by omega⟩
    rw [bc_MO_fillAcross_L2, if_pos (by decide)]
    rfl
  | succ j ih =>
    intro Y n c hY hn
    obtain ⟨n, rfl⟩ := Nat.exists_eq_succ_of_ne_zero (by omega : n ≠ 0)
    obtain ⟨c1, q1, q2, q3, q4⟩ := c_fai N (bc_MO_fillAcross_L2 N n) (show Y < 9 by omega) 4 0 N c (by omega) (by omega)
    obtain ⟨c2, p1, p2, p3, p4⟩ := ih (Y + 1) n c1 (by omega) (by omega)
    refine ⟨c2, ?_, q2.tr p2, fun i hi => ?_, fun y h1 h2 x hx => ?_⟩
    · rw [bc_MO_fillAcross_L2, if_neg (ge9 (by omega))]
      exact q1.trans p1
    · rw [p3 i (by omega), q3 i (by omega)]
    · by_cases he : y = Y
      · subst he
        rw [p3 _ (by omega), q4 x (by omega) hx]
      · rw [p4 y (by omega) h2 x hx]
        simp only [q2.2 17 (by decide)]
/-- the sample that the class makes of window and taps -/
def gk (c : bp_M) (e f : Int32) (k : Nat) : Int32 := if e = 0 then (if f = 0 then c.1 17 (9 * (k / 4 + 2) + k % 4 + 2) else li ((t6 (c.1 17 (9 * (k / 4) + k % 4 + 2)) (c.1 17 (9 * (k / 4 + 1) + k % 4 + 2)) (c.1 17 (9 * (k / 4 + 2) + k % 4 + 2)) (c.1 17 (9 * (k / 4 + 3) + k % 4 + 2)) (c.1 17 (9 * (k / 4 + 4) + k % 4 + 2)) (c.1 17 (9 * (k / 4 + 5) + k % 4 + 2)) + 16) >>> (5 &&& 31 : Int32))) else (if f = 0 then li ((t6 (c.1 17 (9 * (k / 4 + 2) + k % 4)) (c.1 17 (9 * (k / 4 + 2) + k % 4 + 1)) (c.1 17 (9 * (k / 4 + 2) + k % 4 + 2)) (c.1 17 (9 * (k / 4 + 2) + k % 4 + 3)) (c.1 17 (9 * (k / 4 + 2) + k % 4 + 4)) (c.1 17 (9 * (k / 4 + 2) + k % 4 + 5)) + 16) >>> (5 &&& 31 : Int32)) else li ((t6 (c.1 18 (4 * (k / 4) + k % 4)) (c.1 18 (4 * (k / 4 + 1) + k % 4)) (c.1 18 (4 * (k / 4 + 2) + k % 4)) (c.1 18 (4 * (k / 4 + 3) + k % 4)) (c.1 18 (4 * (k / 4 + 4) + k % 4)) (c.1 18 (4 * (k / 4 + 5) + k % 4)) + 512) >>> (10 &&& 31 : Int32)))
theorem c_prl (N : Nat) (q : Nat) {n : Nat} (hn : n < 16) (u v : Int32) {e f : Int32} : ∀ (j k w : Nat) (c : bp_M), k + j = 16 → j < w → ∃ c1, bc_MO_predict_L79 N q 10 (Int32.ofNat n) u v w e f (Int32.ofNat k) c = some c1 ∧ cF [34] c c1 ∧ (∀ i, bo i ≠ n → c1.1 34 i = c.1 34 i) ∧ (∀ i, i < k → c1.1 34 (sn n i) = c.1 34 (sn n i)) ∧ ∀ i, k ≤ i → i < 16 → c1.1 34 (sn n i) = gk c e f i := by
  intro j
  induction j with
  | zero =>
    intro k u c hk hu
    obtain ⟨u, rfl⟩ := Nat.exists_eq_succ_of_ne_zero (by omega : u ≠ 0)
    obtain rfl : k = 16 := by omega
    refine ⟨c, ?_, cF.rf _ _, fun _ _ => rfl, fun _ _ => rfl, fun i h1 h2 => by omega⟩
    rw [bc_MO_predict_L79, if_pos (by decide)]
    rfl
  | succ j ih =>
    intro k w c hk hu
    obtain ⟨w, rfl⟩ := Nat.exists_eq_succ_of_ne_zero (by omega : w ≠ 0)
    have hlt := sn_lt hn (show k < 16 by omega)
    have i1 : vp_in (Int32.ofNat (sn n k)) 256 := bp_in (by omega) hlt
    have i2 : vp_in (Int32.ofNat (9 * (k / 4 + 2) + k % 4 + 2)) 81 := bp_in (by omega) (by omega)
    obtain ⟨c1, q1, q2, q3, q4, q5⟩ := ih (k + 1) w (bp_sI c 34 (sn n k) (gk c e f k)) (by omega) (by omega)
    have e217 : bc_MO_predict_L217 (bc_MO_predict_L79 N q 10 (Int32.ofNat n) u v w) N q 10 (Int32.ofNat n) u v e f (Int32.ofNat k) (gk c e f k) c = some c1 := by
      simp only [bc_MO_predict_L217, c_sn N hn (show k < 16 by omega), bp_cI, bp_git i1, bp_tn (show sn n k < 2147483648 by omega), bp_nM, bp_nI, bp_inc]
      exact q1
    have ta := c_taps N (a := 17) (by decide) (A := 9 * (k / 4 + 2) + k % 4 + 2) (s := 1) (by omega) (show _ < 81 by omega) (by decide) c
    rw [show Int32.ofNat 1 = 1 from rfl, show 9 * (k / 4 + 2) + k % 4 + 2 - 2 * 1 = 9 * (k / 4 + 2) + k % 4 by omega, show 9 * (k / 4 + 2) + k % 4 + 2 - 1 = 9 * (k / 4 + 2) + k % 4 + 1 by omega, show 9 * (k / 4 + 2) + k % 4 + 2 + 1 = 9 * (k / 4 + 2) + k % 4 + 3 by omega, show 9 * (k / 4 + 2) + k % 4 + 2 + 2 * 1 = 9 * (k / 4 + 2) + k % 4 + 4 by omega, show 9 * (k / 4 + 2) + k % 4 + 2 + 3 * 1 = 9 * (k / 4 + 2) + k % 4 + 5 by omega] at ta
    have tb := c_taps N (a := 17) (by decide) (A := 9 * (k / 4 + 2) + k % 4 + 2) (s := 9) (by omega) (show _ < 81 by omega) (by decide) c
    rw [show Int32.ofNat 9 = 9 from rfl, show 9 * (k / 4 + 2) + k % 4 + 2 - 2 * 9 = 9 * (k / 4) + k % 4 + 2 by omega, show 9 * (k / 4 + 2) + k % 4 + 2 - 9 = 9 * (k / 4 + 1) + k % 4 + 2 by omega, show 9 * (k / 4 + 2) + k % 4 + 2 + 9 = 9 * (k / 4 + 3) + k % 4 + 2 by omega, show 9 * (k / 4 + 2) + k % 4 + 2 + 2 * 9 = 9 * (k / 4 + 4) + k % 4 + 2 by omega, show 9 * (k / 4 + 2) + k % 4 + 2 + 3 * 9 = 9 * (k / 4 + 5) + k % 4 + 2 by omega] at tb
    have tc := c_taps N (a := 18) (by decide) (A := 4 * (k / 4 + 2) + k % 4) (s := 4) (by omega) (show _ < 36 by omega) (by decide) c
    rw [show Int32.ofNat 4 = 4 from rfl, show 4 * (k / 4 + 2) + k % 4 - 2 * 4 = 4 * (k / 4) + k % 4 by omega, show 4 * (k / 4 + 2) + k % 4 - 4 = 4 * (k / 4 + 1) + k % 4 by omega, show 4 * (k / 4 + 2) + k % 4 + 4 = 4 * (k / 4 + 3) + k % 4 by omega, show 4 * (k / 4 + 2) + k % 4 + 2 * 4 = 4 * (k / 4 + 4) + k % 4 by omega, show 4 * (k / 4 + 2) + k % 4 + 3 * 4 = 4 * (k / 4 + 5) + k % 4 by omega] at tc
    refine ⟨c1, ?_, ((cF.rf [34] c).s _ (by decide)).tr q2, fun i hi => ?_, fun i hi => ?_, fun i h1 h2 => ?_⟩
    · rw [bc_MO_predict_L79, if_neg (ge16 (by omega)), ← e217]
      simp only [b4 (show k < 100000 by omega), r4 (show k < 100000 by omega), p2, x9, x4, bp_add, bp_nI, bp_git i2, bp_tn (show 9 * (k / 4 + 2) + k % 4 + 2 < 2147483648 by omega), bc_MO_predict_L163, ta, tb, tc, bp_cI, c_limit]
      unfold gk
      by_cases he : e = 0 <;> by_cases hf : f = 0 <;> simp only [he, hf, if_true, if_false]
    · rw [q3 i hi, bp_s1k _ _ _ _ (fun e => hi (by rw [e]; exact bo_sn hn (by omega)))]
    · rw [q4 i (by omega), bp_s1k _ _ _ _ (fun e => by have := sn_in hn (by omega) (by omega) e; omega)]
    · by_cases he : i = k
      · subst he
        rw [q4 i (by omega), bp_s1e]
      · rw [q5 i (by omega) h2]
        unfold gk
        simp only [bp_s1o _ _ _ _ (show (17 : Nat) ≠ 34 by decide), bp_s1o _ _ _ _ (show (18 : Nat) ≠ 34 by decide)]
theorem sh_1 (A x : Nat) (h : Int32) : (Int32.ofNat A + h - 2) + Int32.ofNat x = (Int32.ofNat (A + x) + h) + (-2) := by
  rw [← bp_add]; grind
theorem sh_2 (A x : Nat) (h : Int32) : (Int32.ofNat A + h - 2) + Int32.ofNat (x + 1) = (Int32.ofNat (A + x) + h) + (-1) := by
  rw [← bp_add, ← bp_add, show Int32.ofNat 1 = 1 from rfl]; grind
theorem sh_3 (A x : Nat) (h : Int32) : (Int32.ofNat A + h - 2) + Int32.ofNat (x + 2) = (Int32.ofNat (A + x) + h) + 0 := by
  rw [← bp_add, ← bp_add, show Int32.ofNat 2 = 2 from rfl]; grind
theorem sh_4 (A x : Nat) (h : Int32) : (Int32.ofNat A + h - 2) + Int32.ofNat (x + 3) = (Int32.ofNat (A + x) + h) + 1 := by
  rw [← bp_add, ← bp_add, show Int32.ofNat 3 = 3 from rfl]; grind
theorem sh_5 (A x : Nat) (h : Int32) : (Int32.ofNat A + h - 2) + Int32.ofNat (x + 4) = (Int32.ofNat (A + x) + h) + 2 := by
  rw [← bp_add, ← bp_add, show Int32.ofNat 4 = 4 from rfl]; grind
theorem sh_6 (A x : Nat) (h : Int32) : (Int32.ofNat A + h - 2) + Int32.ofNat (x + 5) = (Int32.ofNat (A + x) + h) + 3 := by
  rw [← bp_add, ← bp_add, show Int32.ofNat 5 = 5 from rfl]; grind
theorem c_predict (N : Nat) (hN : 4000 ≤ N) {q n : Nat} (hq : isPI q) (hn : n < 16) (u v : Int32) (c : bp_M) : ∃ c1, bc_MO_predict N q 10 (Int32.ofNat n) u v c = some c1 ∧ cF [17, 18, 34] c c1 ∧ (∀ i, bo i ≠ n → c1.1 34 i = c.1 34 i) ∧ ∀ k, k < 16 → c1.1 34 (sn n k) = hv (c.1 (q + 24)) (od u) (od v) (Int32.ofNat (4 * (n % 4) + k % 4) + (u >>> (1 &&& 31 : Int32))) (Int32.ofNat (4 * (n / 4) + k / 4) + (v >>> (1 &&& 31 : Int32))) := by
  obtain ⟨ha, hl⟩ := pI_34 hq
  obtain ⟨h1, h2⟩ := hq
  obtain ⟨c1, p1, p2', -, p4⟩ := c_fwo N hN ha hl (by omega) (Int32.ofNat (4 * (n % 4)) + (u >>> (1 &&& 31 : Int32)) - 2) (Int32.ofNat (4 * (n / 4)) + (v >>> (1 &&& 31 : Int32)) - 2) 9 0 N c (by omega) (by omega)
  have p1' : bc_MO_fillWindow N (q + 24) (Int32.ofNat (4 * (n % 4)) + (u >>> (1 &&& 31 : Int32)) - 2) (Int32.ofNat (4 * (n / 4)) + (v >>> (1 &&& 31 : Int32)) - 2) c = some c1 := p1
  have hw : ∀ y, y < 9 → ∀ x, x < 9 → c1.1 17 (9 * y + x) = sS (c.1 (q + 24)) (Int32.ofNat (4 * (n % 4)) + (u >>> (1 &&& 31 : Int32)) - 2 + Int32.ofNat x) (Int32.ofNat (4 * (n / 4)) + (v >>> (1 &&& 31 : Int32)) - 2 + Int32.ofNat y) := fun y hy x hx => p4 y (by omega) hy x hx
  obtain ⟨c2, f1, f2, -, f4⟩ := c_fao N hN 9 0 N c1 (by omega) (by omega)
  have f1' : bc_MO_fillAcross N c1 = some c2 := f1
  have hc3 : ∃ c3, bc_MO_predict_L60 N q 10 (Int32.ofNat n) u v (od u) (od v) c1 = bc_MO_predict_L76 N q 10 (Int32.ofNat n) u v (od u) (od v) c3 ∧ cF [18] c1 c3 ∧ (¬ od u = 0 → ¬ od v = 0 → c3 = c2) := by
    unfold bc_MO_predict_L60
    by_cases he : od u = 0
    · exact ⟨c1, by rw [if_pos he], cF.rf _ _, fun hn => absurd he hn⟩
    · by_cases hf : od v = 0
      · exact ⟨c1, by rw [if_neg he, if_pos hf], cF.rf _ _, fun _ hn => absurd hf hn⟩
      · exact ⟨c2, by rw [if_neg he, if_neg hf, f1']; rfl, f2, fun _ _ => rfl⟩
  obtain ⟨c3, g1, g2, g3⟩ := hc3
  obtain ⟨c4, k1, k2, k3, -, k5⟩ := c_prl N q hn u v (e := od u) (f := od v) 16 0 N c3 (by omega) (by omega)
  have e17 : ∀ y, c3.1 17 y = c1.1 17 y := fun y => g2.2 17 (by decide) y
  refine ⟨c4, ?_, ((p2'.up (by decide)).tr (g2.up (by decide))).tr (k2.up (by decide)), fun i hi => ?_, fun k hk => ?_⟩
  · have e45 : bc_MO_predict_L45 N q 10 (Int32.ofNat n) u v (od u) c1 = some c4 := by
      have e60 : bc_MO_predict_L60 N q 10 (Int32.ofNat n) u v (od u) (od v) c1 = some c4 := g1.trans k1
      rw [← e60]
      unfold bc_MO_predict_L45
      by_cases hv : (v &&& 1 : Int32) = 1
      · rw [if_neg (fun hn => hn hv), show od v = 1 by unfold od; rw [if_neg (fun hn => hn hv)]]
      · rw [if_pos hv, show od v = 0 by unfold od; rw [if_pos hv]]
    unfold bc_MO_predict
    rw [b4 (by omega), r4 (by omega), x4, x4, p1', ← e45]
    simp only [bp_cV]
    by_cases hv : (u &&& 1 : Int32) = 1
    · rw [if_neg (fun hn => hn hv), show od u = 1 by unfold od; rw [if_neg (fun hn => hn hv)]]
    · rw [if_pos hv, show od u = 0 by unfold od; rw [if_pos hv]]
  · rw [k3 i hi, g2.2 34 (by decide), p2'.2 34 (by decide)]
  · rw [k5 k (by omega) hk]
    have hX : k % 4 < 4 := by omega
    have hY : k / 4 < 4 := by omega
    obtain ⟨X, eX⟩ : ∃ X, X = k % 4 := ⟨_, rfl⟩
    obtain ⟨Y, eY⟩ : ∃ Y, Y = k / 4 := ⟨_, rfl⟩
    unfold gk hv
    rw [← eX, ← eY]
    rw [← eX] at hX
    rw [← eY] at hY
    have a1 : ∀ y, y < 9 → ∀ x, x < 9 → c3.1 17 (9 * y + x) = sS (c.1 (q + 24)) (Int32.ofNat (4 * (n % 4)) + (u >>> (1 &&& 31 : Int32)) - 2 + Int32.ofNat x) (Int32.ofNat (4 * (n / 4)) + (v >>> (1 &&& 31 : Int32)) - 2 + Int32.ofNat y) := fun y hy x hx => by rw [e17]; exact hw y hy x hx
    have ad : ∀ a b d : Nat, a + b + d = a + (b + d) := Nat.add_assoc
    by_cases he : od u = 0
    · by_cases hf : od v = 0
      · rw [if_pos he, if_pos hf, if_pos hf, if_pos he, ad, a1 (Y + 2) (by omega) (X + 2) (by omega), sh_3, sh_3, Int32.add_zero, Int32.add_zero]
      · rw [if_pos he, if_neg hf, if_neg hf, if_pos he]
        simp only [ad]
        rw [a1 Y (by omega) (X + 2) (by omega), a1 (Y + 1) (by omega) (X + 2) (by omega), a1 (Y + 2) (by omega) (X + 2) (by omega), a1 (Y + 3) (by omega) (X + 2) (by omega), a1 (Y + 4) (by omega) (X + 2) (by omega), a1 (Y + 5) (by omega) (X + 2) (by omega)]
        simp only [sh_1 _ X, sh_1 _ Y, sh_2 _ X, sh_2 _ Y, sh_3 _ X, sh_3 _ Y, sh_4 _ X, sh_4 _ Y, sh_5 _ X, sh_5 _ Y, sh_6 _ X, sh_6 _ Y, tp, hL, if_pos he]
    · by_cases hf : od v = 0
      · rw [if_neg he, if_pos hf, if_pos hf, if_neg he]
        simp only [ad]
        rw [a1 (Y + 2) (by omega) X (by omega), a1 (Y + 2) (by omega) (X + 1) (by omega), a1 (Y + 2) (by omega) (X + 2) (by omega), a1 (Y + 2) (by omega) (X + 3) (by omega), a1 (Y + 2) (by omega) (X + 4) (by omega), a1 (Y + 2) (by omega) (X + 5) (by omega)]
        simp only [sh_1 _ X, sh_1 _ Y, sh_2 _ X, sh_2 _ Y, sh_3 _ X, sh_3 _ Y, sh_4 _ X, sh_4 _ Y, sh_5 _ X, sh_5 _ Y, sh_6 _ X, sh_6 _ Y, tp, hL, if_neg he]
      · rw [if_neg he, if_neg hf, if_neg hf, if_neg he]
        have hc := g3 he hf
        have a8 : ∀ y, y < 9 → c3.1 18 (4 * y + X) = hL (c.1 (q + 24)) (od u) (Int32.ofNat (4 * (n % 4) + X) + (u >>> (1 &&& 31 : Int32))) (Int32.ofNat (4 * (n / 4)) + (v >>> (1 &&& 31 : Int32)) - 2 + Int32.ofNat y) := fun y hy => by
          rw [hc, f4 y (by omega) hy X (by omega)]
          simp only [ad]
          rw [hw y hy X (by omega), hw y hy (X + 1) (by omega), hw y hy (X + 2) (by omega), hw y hy (X + 3) (by omega), hw y hy (X + 4) (by omega), hw y hy (X + 5) (by omega)]
          simp only [sh_1 _ X, sh_1 _ Y, sh_2 _ X, sh_2 _ Y, sh_3 _ X, sh_3 _ Y, sh_4 _ X, sh_4 _ Y, sh_5 _ X, sh_5 _ Y, sh_6 _ X, sh_6 _ Y, tp, hL, if_neg he]
        rw [a8 Y (by omega), a8 (Y + 1) (by omega), a8 (Y + 2) (by omega), a8 (Y + 3) (by omega), a8 (Y + 4) (by omega), a8 (Y + 5) (by omega)]
        simp only [sh_1 _ X, sh_1 _ Y, sh_2 _ X, sh_2 _ Y, sh_3 _ X, sh_3 _ Y, sh_4 _ X, sh_4 _ Y, sh_5 _ X, sh_5 _ Y, sh_6 _ X, sh_6 _ Y, tp]

theorem c_numF (N : Nat) (hN : 4000 ≤ N) (a1 a2 : Int32) {c : bp_M} {P f : Int32} (hf : ¬ f = 0) : bc_BR_number N a1 a2 (cb c P f) = some (0, cb c P f) := by
  have : ∀ n : Nat, n ≠ 0 → bc_BR_number_L2 N a1 a2 n 0 (cb c P f) = some (0, cb c P f) := by
    intro n hn
    obtain ⟨n, rfl⟩ := Nat.exists_eq_succ_of_ne_zero hn
    rw [bc_BR_number_L2, if_neg (by decide), if_pos (by rw [cb_3]; exact hf)]
    have e := c_28 N a1 a2 (z := 0) (by omega) c P f
    rw [if_neg (fun e => by omega)] at e
    have e' : bc_BR_number_L28 N a1 a2 0 (cb c P f) = bc_BR_number_L39 N a1 a2 0 (cb c P f) := e
    rw [e']
    obtain ⟨x, k1⟩ := c_tailF N a1 a2 (c := c) (P := P) hf (z := 0) (by omega) 0 0 N 0 (by omega) (by omega)
    have k1' : bc_BR_number_L39 N a1 a2 0 (cb c P f) = bc_BR_number_L68 N a1 a2 0 x (cb c P f) := k1
    rw [k1', c_68F N _ _ _ _ hf]
  exact this N (by omega)
theorem c_parF (N : Nat) (hN : 4000 ≤ N) {c : bp_M} {P f : Int32} (hf : ¬ f = 0) : bc_PA_readPending N (cb c P f) = some (cb c P f) := by
  have e : bc_BR_needEnd N (cb c P f) = some (cb c P f) := by
    simp only [bc_BR_needEnd, c_fail, if_neg hf, bp_cV, bc_BR_needEnd_L17]
    split <;> rfl
  simp only [bc_PA_readPending, c_numF N hN _ _ hf, bp_cI, bp_nI, e, bp_cV, cb_3, hf, not_false_iff, if_true, bc_PA_readPending_L43]
theorem bp_and3 (y : Int32) : jr 0 3 (y &&& 3) := by
  refine ⟨(y &&& 3).toBitVec.toNat, Nat.zero_le _, ?_, ?_⟩
  · have h : (y &&& 3).toBitVec.toNat = y.toBitVec.toNat &&& 3 := by
      rw [Int32.toBitVec_and, BitVec.toNat_and]
      rfl
    rw [h]
    exact Nat.and_le_right
  · apply Int32.toBitVec_inj.mp
    apply BitVec.eq_of_toNat_eq
    show _ = (BitVec.ofNat 32 _).toNat
    rw [BitVec.toNat_ofNat, Nat.mod_eq_of_lt (BitVec.isLt _)]
theorem w_work (N : Nat) (hN : 4000 ≤ N) (hP : lw_Pict N) (hF : lw_PictF N) : lw_Work N := by
  intro S n c m hS h1 h2 hc hm hb hK
  have hb0 := (hb 0 (by omega)).1
  have i0 : vp_in 0 320 := by unfold vp_in; decide
  have t0 : (0 : Int32).toNatClampNeg = 0 := rfl
  have m4 : ∀ (k : Nat) (v : Int32) (y : Nat), (bp_sI m 0 k v).1 4 y = m.1 4 y := fun k v y => bp_s1o _ _ _ _ (by decide) _
  have n01 : ¬ (0 : Int32) = 1 := by decide
  -- both sides up to the head's cases
  obtain ⟨c3, r, o1, o2, o3, o4, o5, o6, o7, o8, o9⟩ := o_open N hN (m.1 4 0 &&& 31) ((m.1 4 0 >>> (5 &&& 31 : Int32) : Int32) &&& 3) h1 h2 (c := c) (m := bp_sI (bp_sI m 0 12 0) 0 11 0) (fun i hi => by
    rw [bp_s1o _ _ _ _ (by decide), bp_s1o _ _ _ _ (by decide)]; exact hb i hi)
  have o8' : ∀ i, i < n → c3.1 16 i = m.1 4 i := fun i hi => by rw [o8 i hi, bp_s1o _ _ _ _ (by decide), bp_s1o _ _ _ _ (by decide)]
  have hK3 : ∀ m1 : bp_M, (∀ x, x ≠ 0 → ∀ y, m1.1 x y = m.1 x y) → (∀ y, y ≠ 8 → y ≠ 10 → y ≠ 11 → y ≠ 12 → m1.1 0 y = m.1 0 y) → jK S c3 m1 := fun m1 g2 g3 => jK_fr hK o3 (fun x _ a b y => o4 x a b y) (by rw [o4 0 (by decide) (by decide), g3 9 (by decide) (by decide) (by decide) (by decide)]; exact hK.1) g2 (fun y a _ b d e => g3 y a b d e)
  have fr3 : ∀ m1 : bp_M, (∀ x, x ≠ 0 → ∀ y, m1.1 x y = m.1 x y) → m1.1 0 44 = m.1 0 44 → jFr c m c3 m1 := fun m1 g2 g4 => ⟨fun y => o4 5 (by decide) (by decide) y, fun y => o4 23 (by decide) (by decide) y, g4, fun y => g2 20 (by decide) y⟩
  -- the end, from any state behind the cases
  have fin : ∀ (T : Nat) (c4 m5 : bp_M), T ≤ S + 10 → bc_BP_workThrough N c = bc_BP_workThrough_L109 N c4 → bm_M_work N m = bm_M_work_L202 N m5 → c4.1 6 3 = m5.1 0 12 → jK T c4 m5 → (∀ y, c4.1 1 y = c.1 1 y) → (∀ y, 4 ≤ y ∧ y ≤ 7 → m5.1 0 y = m.1 0 y) → jFr c m c4 m5 → ∃ c1 m1, bc_BP_workThrough N c = some c1 ∧ bm_M_work N m = some m1 ∧ c1.1 0 5 = m1.1 0 8 ∧ jK (S + 10) c1 m1 ∧ (∀ y, c1.1 1 y = c.1 1 y) ∧ (∀ y, 4 ≤ y ∧ y ≤ 7 → m1.1 0 y = m.1 0 y) ∧ jFr c m c1 m1 := fun T c4 m5 hT e1 e2 e3 e4 e5 e6 e7 => by
    obtain ⟨c1, m1, q1, q2, q3, q4, q5, q6, q7⟩ := w_fin N e3 e4
    exact ⟨c1, m1, e1.trans q1, e2.trans q2, q3, q4.up hT, fun y => (q5 y).trans (e5 y), fun y hy => (q6 y hy).trans (e6 y hy), e7.tr q7⟩
  have gs : ∀ v : Int32, (∀ x, x ≠ 0 → ∀ y, (bp_sI m 0 12 v).1 x y = m.1 x y) ∧ (∀ y, y ≠ 12 → (bp_sI m 0 12 v).1 0 y = m.1 0 y) := fun v => ⟨fun x a y => bp_s1o _ _ _ _ a y, fun y a => bp_s1k _ _ _ _ a⟩
  -- the reference's road to the data's end
  have o9n : r = none → bm_M_work_L94 N N (m.1 4 0 &&& 31) ((m.1 4 0 >>> (5 &&& 31 : Int32) : Int32) &&& 3) (bp_sI (bp_sI (bp_sI m 0 12 0) 0 11 0) 0 10 (8 * (Int32.ofNat n - 1) - 1)) = bm_M_work_L144 N (m.1 4 0 &&& 31) ((m.1 4 0 >>> (5 &&& 31 : Int32) : Int32) &&& 3) (bp_sI (bp_sI (bp_sI m 0 12 0) 0 11 0) 0 10 (-1)) := by
    intro h; subst h; exact o9
  have o9s : ∀ d, r = some d → bm_M_work_L94 N N (m.1 4 0 &&& 31) ((m.1 4 0 >>> (5 &&& 31 : Int32) : Int32) &&& 3) (bp_sI (bp_sI (bp_sI m 0 12 0) 0 11 0) 0 10 (8 * (Int32.ofNat n - 1) - 1)) = bm_M_work_L144 N (m.1 4 0 &&& 31) ((m.1 4 0 >>> (5 &&& 31 : Int32) : Int32) &&& 3) (bp_sI (bp_sI (bp_sI m 0 12 0) 0 11 0) 0 10 (Int32.ofNat d)) := by
    intro d h; subst h; exact o9
  have hroad : ∀ u : Int32, bm_M_work_L94 N N (m.1 4 0 &&& 31) ((m.1 4 0 >>> (5 &&& 31 : Int32) : Int32) &&& 3) (bp_sI (bp_sI (bp_sI m 0 12 0) 0 11 0) 0 10 (8 * (Int32.ofNat n - 1) - 1)) = bm_M_work_L144 N (m.1 4 0 &&& 31) ((m.1 4 0 >>> (5 &&& 31 : Int32) : Int32) &&& 3) (bp_sI (bp_sI (bp_sI m 0 12 0) 0 11 0) 0 10 u) → m.1 4 0 ≤ 127 → (m.1 4 0 &&& 31 = 7 ∨ m.1 4 0 &&& 31 = 5 ∨ m.1 4 0 &&& 31 = 1) → bm_M_work N m = bm_M_work_L144 N (m.1 4 0 &&& 31) ((m.1 4 0 >>> (5 &&& 31 : Int32) : Int32) &&& 3) (bp_sI (bp_sI (bp_sI m 0 12 0) 0 11 0) 0 10 u) := fun u hu h127 hty => by
    have e12 : (bp_sI m 0 12 0).1 0 12 = 0 := bp_s1e _ _ _ _
    have e4 : (bp_sI (bp_sI m 0 12 0) 0 11 0).1 0 4 = Int32.ofNat n := by rw [bp_s1k _ _ _ _ (by decide), bp_s1k _ _ _ _ (by decide)]; exact hm
    have e62 : bm_M_work_L62 N (m.1 4 0 &&& 31) ((m.1 4 0 >>> (5 &&& 31 : Int32) : Int32) &&& 3) 1 (bp_sI m 0 12 0) = bm_M_work_L94 N N (m.1 4 0 &&& 31) ((m.1 4 0 >>> (5 &&& 31 : Int32) : Int32) &&& 3) (bp_sI (bp_sI (bp_sI m 0 12 0) 0 11 0) 0 10 (8 * (Int32.ofNat n - 1) - 1)) := by
      simp only [bm_M_work_L62, if_neg bp_10, e12, not_true, if_false, bp_nM, e4]
    rw [← hu, ← e62]
    simp only [bm_M_work, bp_git i0, t0, if_pos h127, bm_M_work_L17, bp_nM, bp_nI, m4, bm_M_work_L57]
    by_cases a1 : m.1 4 0 &&& 31 = 1
    · rw [if_pos a1]
    · rw [if_neg a1]
      by_cases a5 : m.1 4 0 &&& 31 = 5
      · rw [if_pos a5]
      · have a7 : m.1 4 0 &&& 31 = 7 := by rcases hty with h | h | h; exact h; exact absurd h a5; exact absurd h a1
        rw [if_neg a5, if_neg (fun hn => hn a7)]
  have gM : ∀ u v : Int32, (∀ x, x ≠ 0 → ∀ y, (bp_sI (bp_sI (bp_sI (bp_sI m 0 12 0) 0 11 0) 0 10 u) 0 12 v).1 x y = m.1 x y) ∧ (∀ y, y ≠ 10 → y ≠ 11 → y ≠ 12 → (bp_sI (bp_sI (bp_sI (bp_sI m 0 12 0) 0 11 0) 0 10 u) 0 12 v).1 0 y = m.1 0 y) := fun u v => ⟨fun x a y => by rw [bp_s1o _ _ _ _ a, bp_s1o _ _ _ _ a, bp_s1o _ _ _ _ a, bp_s1o _ _ _ _ a], fun y a b d => by rw [bp_s1k _ _ _ _ d, bp_s1k _ _ _ _ a, bp_s1k _ _ _ _ b, bp_s1k _ _ _ _ d]⟩
  have road0 : r = none → m.1 4 0 ≤ 127 → (m.1 4 0 &&& 31 = 7 ∨ m.1 4 0 &&& 31 = 5 ∨ m.1 4 0 &&& 31 = 1) → bm_M_work N m = bm_M_work_L202 N (bp_sI (bp_sI (bp_sI (bp_sI m 0 12 0) 0 11 0) 0 10 (-1)) 0 12 4) := fun hr h127 hty => by
    rw [hroad _ (o9n hr) h127 hty]
    have e : ¬ (0 : Int32) ≤ -1 := by decide
    simp only [bm_M_work_L144, bp_s1e, if_neg e, bm_M_work_L157, bp_nM, bp_n40, not_false_iff, if_true, bm_M_work_L180]
  have mark0 : r = none → bc_BR_needMark N c3 = some (bp_sI c3 6 3 4) := fun hr => by
    have e : c3.1 6 2 = -1 := by rw [o7, hr]
    simp only [bc_BR_needMark, e, not_true, if_false, bc_BR_fail, o5, bp_nM, bc_BR_fail_L12, bp_cV, bc_BR_needMark_L13]
  have mark1 : ∀ d, r = some d → bc_BR_needMark N c3 = some c3 := fun d hr => by
    have hd := o2 d hr
    have e : ¬ c3.1 6 2 = -1 := by
      rw [o7, hr]
      intro e
      have h1 : (-1 : Int32) < 0 := by decide
      rw [← show Int32.ofNat (d + 8) = -1 from e] at h1
      exact bp_nneg (by omega) h1
    simp only [bc_BR_needMark, e, not_false_iff, if_true, bc_BR_needMark_L13]
  have ec4 : bp_sI c3 6 3 4 = cb c3 (c3.1 6 1) 4 := by
    have e := cb_f c3 (c3.1 6 1) (c3.1 6 3) 4
    rw [cb_id] at e
    exact e
  have hE : ∀ d, r = some d → bE d c3 (bp_sI (bp_sI (bp_sI (bp_sI m 0 12 0) 0 11 0) 0 10 (Int32.ofNat d)) 0 12 0) := fun d hr => by
    have hd := o2 d hr
    refine ⟨by omega, by rw [o7, hr], by rw [bp_s1k _ _ _ _ (by decide), bp_s1e], fun i a b => ?_⟩
    rw [(gM _ _).1 4 (by decide)]
    exact o8' i (by omega)
  have hKn : jK S (bp_sI c3 6 3 4) (bp_sI (bp_sI (bp_sI (bp_sI m 0 12 0) 0 11 0) 0 10 (-1)) 0 12 4) := jK_fr (hK3 _ (gM (-1) 4).1 (fun y _ a b d => (gM (-1) 4).2 y a b d)) rfl (fun x _ a _ y => bp_s1o _ _ _ _ a y) (by rw [bp_s1o _ _ _ _ (by decide), o4 0 (by decide) (by decide), (gM (-1) 4).2 9 (by decide) (by decide) (by decide)]; exact hK.1) (fun _ _ _ => rfl) (fun _ _ _ _ _ _ => rfl)
  have frN : jFr c m (bp_sI c3 6 3 4) (bp_sI (bp_sI (bp_sI (bp_sI m 0 12 0) 0 11 0) 0 10 (-1)) 0 12 4) := ⟨fun y => by rw [bp_s1o _ _ _ _ (by decide)]; exact o4 5 (by decide) (by decide) y, fun y => by rw [bp_s1o _ _ _ _ (by decide)]; exact o4 23 (by decide) (by decide) y, (gM (-1) 4).2 44 (by decide) (by decide) (by decide), fun y => (gM (-1) 4).1 20 (by decide) y⟩
  by_cases h127 : m.1 4 0 ≤ 127
  · by_cases h7 : m.1 4 0 &&& 31 = 7
    · cases hr : r with
      | none =>
        refine fin S (bp_sI c3 6 3 4) _ (by omega) ?_ (road0 hr h127 (Or.inl h7)) ?_ hKn (fun y => by rw [bp_s1o _ _ _ _ (by decide)]; exact o4 1 (by decide) (by decide) y) (fun y hy => (gM _ _).2 y (by omega) (by omega) (by omega)) frN
        · have e := c_parF N hN (c := c3) (P := c3.1 6 1) bp_n40
          rw [← ec4] at e
          simp only [bc_BP_workThrough, bp_git i0, t0, bp_nI, hc, o1, bp_cV, hb0, if_pos h127, h7, not_true, if_false, mark0 hr, e]
        · rw [bp_s1e, bp_s1e]
      | some d =>
        have hr8 : rS d (c3.1 6 1) 0 (c3.1 6 3) := fun _ => ⟨0, Nat.zero_le _, o6, rfl⟩
        obtain ⟨m5, hm5⟩ : ∃ m5 : bp_M, m5 = bp_sI (bp_sI (bp_sI (bp_sI m 0 12 0) 0 11 0) 0 10 (Int32.ofNat d)) 0 12 0 := ⟨_, rfl⟩
        have hE5 : bE d c3 m5 := by rw [hm5]; exact hE d hr
        have k11 : m5.1 0 11 = 0 := by rw [hm5]; simp [bp_s1]
        have k12 : m5.1 0 12 = 0 := by rw [hm5]; simp [bp_s1]
        have g5 : (∀ x, x ≠ 0 → ∀ y, m5.1 x y = m.1 x y) ∧ (∀ y, y ≠ 10 → y ≠ 11 → y ≠ 12 → m5.1 0 y = m.1 0 y) := by rw [hm5]; exact gM _ _
        obtain ⟨c1, m1, f1, q1, q2, q3, q4, q5, q6, q7, q8, q9, q10⟩ := n_par N hN hE5 hr8 (hK3 m5 g5.1 (fun y _ a b d => g5.2 y a b d))
        rw [cb_id] at q1
        rw [o5] at q2
        have eid : mb m5 0 0 = m5 := by
          have e := mb_id m5
          rw [k11, k12] at e
          exact e
        rw [eid] at q2
        refine fin S c1 m1 (by omega) ?_ ?_ (q3.trans q4.symm) q6 (fun y => by rw [q8 1 (by decide) (by decide)]; exact o4 1 (by decide) (by decide) y) (fun y hy => by rw [q10 y (by omega)]; exact g5.2 y (by omega) (by omega) (by omega)) ⟨fun y => by rw [q8 5 (by decide) (by decide)]; exact o4 5 (by decide) (by decide) y, fun y => by rw [q8 23 (by decide) (by decide)]; exact o4 23 (by decide) (by decide) y, by rw [q10 44 (by omega)]; exact g5.2 44 (by decide) (by decide) (by decide), fun y => by rw [q9 20 (by decide)]; exact g5.1 20 (by decide) y⟩
        · simp only [bc_BP_workThrough, bp_git i0, t0, bp_nI, hc, o1, bp_cV, hb0, if_pos h127, h7, not_true, if_false, mark1 d hr, q1]
        · rw [hroad _ (o9s d hr) h127 (Or.inl h7)]
          have e : (0 : Int32) ≤ Int32.ofNat d := bp_nlt (bp_nneg (by have := o2 d hr; omega))
          simp only [bm_M_work_L144]
          rw [bp_s1e, if_pos e]
          simp only [bm_M_work_L157, bp_nM]
          rw [← hm5, k12, if_neg (fun hn => hn rfl), if_neg (fun hn => hn h7), q2]
          rfl
    · by_cases h15 : m.1 4 0 &&& 31 = 5 ∨ m.1 4 0 &&& 31 = 1
      · obtain ⟨key, hkey, hkb⟩ : ∃ key : Int32, key = (if m.1 4 0 &&& 31 = 5 then 1 else 0) ∧ (key = 0 ∨ key = 1) := ⟨_, rfl, by split; exact Or.inr rfl; exact Or.inl rfl⟩
        have hcl : ∀ c4 c5 : bp_M, bc_BR_needMark N c3 = some c4 → bc_BP_takePicture N key ((m.1 4 0 >>> (5 &&& 31 : Int32) : Int32) &&& 3) c4 = some c5 → bc_BP_workThrough N c = bc_BP_workThrough_L109 N c5 := fun c4 c5 e1 e2 => by
          have e3 : bc_BP_workThrough_L86 N (m.1 4 0) (m.1 4 0 &&& 31) c3 = bc_BP_workThrough_L109 N c5 := by
            simp only [bc_BP_workThrough_L86, e1, bp_cV, bc_BP_workThrough_L101]
            by_cases a5 : m.1 4 0 &&& 31 = 5
            · rw [hkey, if_pos a5] at e2
              rw [if_neg (fun hn => hn a5), e2]
            · rw [hkey, if_neg a5] at e2
              rw [if_pos a5, e2]
          simp only [bc_BP_workThrough, bp_git i0, t0, bp_nI, hc, o1, bp_cV, hb0, if_pos h127, h7, not_false_iff, if_true, e3]
          by_cases a5 : m.1 4 0 &&& 31 = 5
          · rw [if_pos a5]
          · have a1 : m.1 4 0 &&& 31 = 1 := by rcases h15 with h | h; exact absurd h a5; exact h
            rw [if_neg a5, if_neg (fun hn => hn a1)]
        have hty : m.1 4 0 &&& 31 = 7 ∨ m.1 4 0 &&& 31 = 5 ∨ m.1 4 0 &&& 31 = 1 := Or.inr h15
        cases hr : r with
        | none =>
          obtain ⟨c5, q1, q2, q3, q4, q5, q6⟩ := hF S (bp_sI c3 6 3 4) _ key ((m.1 4 0 >>> (5 &&& 31 : Int32) : Int32) &&& 3) (by rw [bp_s1e]; exact bp_n40) hKn
          refine fin S c5 _ (by omega) (hcl _ _ (mark0 hr) q1) (road0 hr h127 hty) ?_ q3 (fun y => by rw [q5, bp_s1o _ _ _ _ (by decide)]; exact o4 1 (by decide) (by decide) y) (fun y hy => (gM _ _).2 y (by omega) (by omega) (by omega)) (frN.tr q6)
          rw [q2, bp_s1e, bp_s1e]
        | some d =>
          obtain ⟨m5, hm5⟩ : ∃ m5 : bp_M, m5 = bp_sI (bp_sI (bp_sI (bp_sI m 0 12 0) 0 11 0) 0 10 (Int32.ofNat d)) 0 12 0 := ⟨_, rfl⟩
          have hE5 : bE d c3 m5 := by rw [hm5]; exact hE d hr
          have k11 : m5.1 0 11 = 0 := by rw [hm5]; simp [bp_s1]
          have k12 : m5.1 0 12 = 0 := by rw [hm5]; simp [bp_s1]
          have g5 : (∀ x, x ≠ 0 → ∀ y, m5.1 x y = m.1 x y) ∧ (∀ y, y ≠ 10 → y ≠ 11 → y ≠ 12 → m5.1 0 y = m.1 0 y) := by rw [hm5]; exact gM _ _
          obtain ⟨c1, m1, q1, q2, q3, q4, q5, q6, q7, q8⟩ := hP S d c3 m5 key ((m.1 4 0 >>> (5 &&& 31 : Int32) : Int32) &&& 3) hS hkb (bp_and3 _) hE5 (hK3 m5 g5.1 (fun y _ a b d => g5.2 y a b d)) o6 o5 k11 k12
          refine fin (S + 10) c1 m1 (by omega) (hcl _ _ (mark1 d hr) q1) ?_ q3 q4 (fun y => by rw [q6]; exact o4 1 (by decide) (by decide) y) (fun y hy => by rw [q7 y (by omega)]; exact g5.2 y (by omega) (by omega) (by omega)) ((fr3 m5 g5.1 (g5.2 44 (by decide) (by decide) (by decide))).tr q8)
          rw [hroad _ (o9s d hr) h127 hty]
          have e : (0 : Int32) ≤ Int32.ofNat d := bp_nlt (bp_nneg (by have := o2 d hr; omega))
          simp only [bm_M_work_L144]
          rw [bp_s1e, if_pos e]
          simp only [bm_M_work_L157, bp_nM]
          rw [← hm5, k12, if_neg (fun hn => hn rfl), if_pos h7]
          simp only [bm_M_work_L180, k12, not_true, if_false, bm_M_work_L198]
          by_cases a5 : m.1 4 0 &&& 31 = 5
          · rw [hkey, if_pos a5] at q2
            rw [if_neg (fun hn => hn a5), q2]
            rfl
          · rw [hkey, if_neg a5] at q2
            rw [if_pos a5, q2]
            rfl
      · have h5 : ¬ m.1 4 0 &&& 31 = 5 := fun e => h15 (Or.inl e)
        have hh1 : ¬ m.1 4 0 &&& 31 = 1 := fun e => h15 (Or.inr e)
        refine fin S c3 (bp_sI m 0 12 0) (by omega) ?_ ?_ ?_ (hK3 _ (gs 0).1 (fun y _ _ _ a => (gs 0).2 y a)) (fun y => o4 1 (by decide) (by decide) y) (fun y hy => (gs 0).2 y (by omega)) (fr3 _ (gs 0).1 ((gs 0).2 44 (by decide)))
        · simp only [bc_BP_workThrough, bp_git i0, t0, bp_nI, hc, o1, bp_cV, hb0, if_pos h127, h7, h5, hh1, not_false_iff, if_true, if_false]
        · simp only [bm_M_work, bp_git i0, t0, if_pos h127, bm_M_work_L17, bp_nM, bp_nI, m4, h7, h5, hh1, not_false_iff, if_true, if_false, bm_M_work_L62]
        · rw [o5, bp_s1e]
  · have ef : bc_BR_fail N 1 c3 = some (bp_sI c3 6 3 1) := by simp only [bc_BR_fail, o5, not_true, if_false, bp_nM, bc_BR_fail_L12]
    have hK4 : jK S (bp_sI c3 6 3 1) (bp_sI m 0 12 1) := jK_fr (hK3 _ (gs 1).1 (fun y _ _ _ a => (gs 1).2 y a)) rfl (fun x _ a _ y => bp_s1o _ _ _ _ a y) (by rw [bp_s1o _ _ _ _ (by decide), o4 0 (by decide) (by decide), (gs 1).2 9 (by decide)]; exact hK.1) (fun _ _ _ => rfl) (fun _ _ _ _ _ _ => rfl)
    refine fin S (bp_sI c3 6 3 1) (bp_sI m 0 12 1) (by omega) ?_ ?_ ?_ hK4 (fun y => by rw [bp_s1o _ _ _ _ (by decide)]; exact o4 1 (by decide) (by decide) y) (fun y hy => (gs 1).2 y (by omega)) ⟨fun y => by rw [bp_s1o _ _ _ _ (by decide)]; exact o4 5 (by decide) (by decide) y, fun y => by rw [bp_s1o _ _ _ _ (by decide)]; exact o4 23 (by decide) (by decide) y, (gs 1).2 44 (by decide), fun y => (gs 1).1 20 (by decide) y⟩
    · simp only [bc_BP_workThrough, bp_git i0, t0, bp_nI, hc, o1, bp_cV, hb0, if_neg h127, ef]
    · have e12 : (bp_sI m 0 12 1).1 0 12 = 1 := bp_s1e _ _ _ _
      simp only [bm_M_work, bp_git i0, t0, if_neg h127, bm_M_work_L17, bp_nM, bp_nI, m4, bm_M_work_L57, bm_M_work_L62, e12, bp_10, not_false_iff, if_true, if_false]
      split <;> first | rfl | (split <;> first | rfl | (split <;> rfl))
    · rw [bp_s1e, bp_s1e]

set_option maxHeartbeats 4000000 in
set_option maxRecDepth 100000 in
theorem wbm_M_work (l : Launch) (E : bm_E) (N : Nat)  (m : bp_M) (sz : Nat) (mr : bp_M)  (h : bm_M_work N m = some mr) : Met l y_bm_M_work (Cond.code y_bm_M_work prog_13_method_14_code 4 none :: bp_tb) ({ frames := 7, cells := 0, slots := 0, locals := 180 }) (bm_Pc E m sz [.ref (E.2.1 0)]) (bm_Qv E m sz mr) 0 0 (va_A (bm_W E m) sz) := by
  refine Met.ofW (cc := prog_13_method_14_code) (maxL := 4) (ret := none) (by decide) rfl ?_
  intro p e s mt args below meth c s₁ B hml hv
  obtain ⟨rfl, hsz, hP, hK, hD0, hst⟩ := hv
  have hx := B.exec
  have hb := B.bytes
  have hr := B.returns
  have htb : ∀ w ∈ bp_tb, w.before _ s = true := fun w hw => atoms_spec (ws := Cond.code y_bm_M_work prog_13_method_14_code 4 none :: bp_tb) B.pre w (List.mem_cons_of_mem _ hw)
  have hown : s.vm.findClass "BlockPicturesModel" = some mt.cls := findClass_of_methodNamed B.named
  have hlocks := B.notSynchronized
  subst hsz
  have hD := hD0.self (sz := s.heap.size)
  generalize hAe : va_A (bm_W E m) s.heap.size = A at hD hst ⊢
  have hsub : ∀ (u : bp_M) (z q : Nat), s.heap.size ≤ z → va_A (bm_W E u) z q → A q := bm_sub hAe
  have hS : va_S A s.heap s.heap [] := va_S.rf
  have hl := lv_entry ([.ref (E.2.1 0)]) (n := 4) (Nat.le_of_ble_eq_true rfl)
  rw [lg_entry_eq]
  generalize (lg_sl ([.ref (E.2.1 0)]) ++ List.replicate (4 - (lg_sl ([.ref (E.2.1 0)])).length) Slot.unset).toArray = ls at hl ⊢
  have hl : lv_has ls 4 [(0, .ref (E.2.1 0))] := hl
  refine bm_keyV (R := ({ frames := 7, cells := 0, slots := 0, locals := 180 })) E hx hb hr hlocks hK hAe (fun Q hret => ?_)
  clear B hD0 hlocks hr
  generalize ([.ref (E.2.1 0)] : List Value).toArray = args at htb hret ⊢
  clear hAe
  have hL219 : ∀ (m : bp_M), bm_M_work_L219 N m = some mr → ∀ (ls : Array Slot) (H : Heap) (locs : List Loc), lv_has ls 4 [(0, .ref (E.2.1 0))] → va_P E.1 bp_cl (bm_W E m) H → va_D A (bm_W E m) → va_S A s.heap H locs → W p l e ({ frames := 7, cells := 0, slots := 0, locals := 180 }) s mt args below meth c H locs 0 0 Q (F0 mt 219 ls []) := by
    intro m h ls H locs hl hP hD hS
    rw [bm_M_work_L219] at h
    refine lv_aload_n hx hb (dt_bm_M_work 125 rfl) rfl (lv_at hl 0 rfl) ?_
    refine lv_aload_n hx hb (dt_bm_M_work 126 rfl) rfl (lv_at hl 0 rfl) ?_
    refine va_get (D := E.1) (ci := 10) (v := .int (m.1 0 12)) (C := "BlockPicturesModel") (T := bF_M) (N := 48) hx hb htb bm_in_M hown hK hP 0 (bm_gM E m) rfl 12 (by decide) (htb _ tw_780) (fun _ h9 => h9) rfl (dt_bm_M_work 127 rfl) ?_
    refine bm_pM_8 E hx hb htb hown hK hP hD hS (htb _ tw_776) (dt_bm_M_work 128 rfl) (fun m1 em1 H locs hP hD hS => ?_)
    replace h := bp_nM_s h em1
    exact hret _ _ _ _ _ h hP hD hS (dt_bm_M_work 129 rfl)
  have hL202 : ∀ (m : bp_M), bm_M_work_L202 N m = some mr → ∀ (ls : Array Slot) (H : Heap) (locs : List Loc), lv_has ls 4 [(0, .ref (E.2.1 0))] → va_P E.1 bp_cl (bm_W E m) H → va_D A (bm_W E m) → va_S A s.heap H locs → W p l e ({ frames := 7, cells := 0, slots := 0, locals := 180 }) s mt args below meth c H locs 0 0 Q (F0 mt 202 ls []) := by
    intro m h ls H locs hl hP hD hS
    rw [bm_M_work_L202] at h
    refine lv_aload_n hx hb (dt_bm_M_work 116 rfl) rfl (lv_at hl 0 rfl) ?_
    refine va_get (D := E.1) (ci := 10) (v := .int (m.1 0 12)) (C := "BlockPicturesModel") (T := bF_M) (N := 48) hx hb htb bm_in_M hown hK hP 0 (bm_gM E m) rfl 12 (by decide) (htb _ tw_780) (fun _ h9 => h9) rfl (dt_bm_M_work 117 rfl) ?_
    refine lv_if_ne (tgt := 219) hx hb (dt_bm_M_work 118 rfl) (by decide) (fun hc => ?_) (fun hc => ?_)
    · replace h := (if_pos hc).symm.trans h
      exact hL219 _ h ls H locs (lv_sub hl [0] rfl) hP hD hS
    · replace h := (if_neg (fun hn => hn hc)).symm.trans h
      refine lv_aload_n hx hb (dt_bm_M_work 119 rfl) rfl (lv_at hl 0 rfl) ?_
      refine lv_dup hx hb (dt_bm_M_work 120 rfl) rfl ?_
      refine va_get (D := E.1) (ci := 10) (v := .int (m.1 0 9)) (C := "BlockPicturesModel") (T := bF_M) (N := 48) hx hb htb bm_in_M hown hK hP 0 (bm_gM E m) rfl 9 (by decide) (htb _ tw_777) (fun _ h9 => h9) rfl (dt_bm_M_work 121 rfl) ?_
      refine lv_iconst (v := 1) hx hb (dt_bm_M_work 122 rfl) (by decide) ?_
      refine lv_iadd hx hb (dt_bm_M_work 123 rfl) ?_
      refine bm_pM_9 E hx hb htb hown hK hP hD hS (htb _ tw_777) (dt_bm_M_work 124 rfl) (fun m1 em1 H locs hP hD hS => ?_)
      replace h := bp_nM_s h em1
      exact hL219 _ h ls H locs (lv_sub hl [0] rfl) hP hD hS
  have hL198 : ∀ (x2 : Int32) (s0 : Int32) (m : bp_M), bm_M_work_L198 N x2 s0 m = some mr → ∀ (ls : Array Slot) (H : Heap) (locs : List Loc), lv_has ls 4 [(0, .ref (E.2.1 0)), (2, .int x2)] → va_P E.1 bp_cl (bm_W E m) H → va_D A (bm_W E m) → va_S A s.heap H locs → W p l e ({ frames := 7, cells := 0, slots := 0, locals := 180 }) s mt args below meth c H locs 0 0 Q (F0 mt 198 ls [.int s0, .ref (E.2.1 0)]) := by
    intro x2 s0 m h ls H locs hl hP hD hS
    rw [bm_M_work_L198] at h
    refine lv_iload_n hx hb (dt_bm_M_work 114 rfl) rfl (lv_at hl 1 rfl) ?_
    obtain ⟨m1, hm1, h⟩ := bp_cV_s h
    refine bm_callV E hsub hS (va_runV (As := [.int s0, .int x2]) (rest := []) ⟨hx, hb, hml, hown, htb⟩ (wbm_M_picture l E N s0 x2 m H.size m1 hm1) (cwV 2 htb (bp_goodV tw_952 tw_954 tw_41 tw_79 tw_955) rfl rfl rfl ⟨rfl, hd_bm_M_picture⟩ ⟨Nat.le_of_ble_eq_true rfl, Nat.le_of_ble_eq_true rfl⟩) (bm_preV E hsub hst hK hP hD hS (bm_gM E m) rfl rfl _) rfl rfl hl.1 rfl (lv_room (Nat.le_of_ble_eq_true rfl)) (dt_bm_M_work 115 rfl) ⟨Nat.zero_le _, Nat.zero_le _⟩) (fun H locs hP hD hS => ?_)
    exact hL202 _ h ls H locs (lv_sub hl [0] rfl) hP hD hS
  have hL180 : ∀ (x1 : Int32) (x2 : Int32) (m : bp_M), bm_M_work_L180 N x1 x2 m = some mr → ∀ (ls : Array Slot) (H : Heap) (locs : List Loc), lv_has ls 4 [(0, .ref (E.2.1 0)), (1, .int x1), (2, .int x2)] → va_P E.1 bp_cl (bm_W E m) H → va_D A (bm_W E m) → va_S A s.heap H locs → W p l e ({ frames := 7, cells := 0, slots := 0, locals := 180 }) s mt args below meth c H locs 0 0 Q (F0 mt 180 ls []) := by
    intro x1 x2 m h ls H locs hl hP hD hS
    rw [bm_M_work_L180] at h
    refine lv_aload_n hx hb (dt_bm_M_work 104 rfl) rfl (lv_at hl 0 rfl) ?_
    refine va_get (D := E.1) (ci := 10) (v := .int (m.1 0 12)) (C := "BlockPicturesModel") (T := bF_M) (N := 48) hx hb htb bm_in_M hown hK hP 0 (bm_gM E m) rfl 12 (by decide) (htb _ tw_780) (fun _ h9 => h9) rfl (dt_bm_M_work 105 rfl) ?_
    refine lv_if_ne (tgt := 202) hx hb (dt_bm_M_work 106 rfl) (by decide) (fun hc => ?_) (fun hc => ?_)
    · replace h := (if_pos hc).symm.trans h
      exact hL202 _ h ls H locs (lv_sub hl [0] rfl) hP hD hS
    · replace h := (if_neg (fun hn => hn hc)).symm.trans h
      refine lv_aload_n hx hb (dt_bm_M_work 107 rfl) rfl (lv_at hl 0 rfl) ?_
      refine lv_iload_n hx hb (dt_bm_M_work 108 rfl) rfl (lv_at hl 1 rfl) ?_
      refine lv_iconst (v := 5) hx hb (dt_bm_M_work 109 rfl) (by decide) ?_
      refine lv_icmp_ne (tgt := 197) hx hb (dt_bm_M_work 110 rfl) (by decide) (fun hc => ?_) (fun hc => ?_)
      · replace h := (if_pos hc).symm.trans h
        refine lv_iconst (v := 0) hx hb (dt_bm_M_work 113 rfl) (by decide) ?_
        exact hL198 _ _ _ h ls H locs (lv_sub hl [0, 2] rfl) hP hD hS
      · replace h := (if_neg (fun hn => hn hc)).symm.trans h
        refine lv_iconst (v := 1) hx hb (dt_bm_M_work 111 rfl) (by decide) ?_
        refine lv_goto (tgt := 198) hx hb (dt_bm_M_work 112 rfl) (by decide) ?_
        exact hL198 _ _ _ h ls H locs (lv_sub hl [0, 2] rfl) hP hD hS
  have hL157 : ∀ (x1 : Int32) (x2 : Int32) (s0 : Int32) (m : bp_M), bm_M_work_L157 N x1 x2 s0 m = some mr → ∀ (ls : Array Slot) (H : Heap) (locs : List Loc), lv_has ls 4 [(0, .ref (E.2.1 0)), (1, .int x1), (2, .int x2)] → va_P E.1 bp_cl (bm_W E m) H → va_D A (bm_W E m) → va_S A s.heap H locs → W p l e ({ frames := 7, cells := 0, slots := 0, locals := 180 }) s mt args below meth c H locs 0 0 Q (F0 mt 157 ls [.int s0, .ref (E.2.1 0)]) := by
    intro x1 x2 s0 m h ls H locs hl hP hD hS
    rw [bm_M_work_L157] at h
    refine bm_pM_12 E hx hb htb hown hK hP hD hS (htb _ tw_780) (dt_bm_M_work 94 rfl) (fun m1 em1 H locs hP hD hS => ?_)
    replace h := bp_nM_s h em1
    refine lv_aload_n hx hb (dt_bm_M_work 95 rfl) rfl (lv_at hl 0 rfl) ?_
    refine va_get (D := E.1) (ci := 10) (v := .int (m1.1 0 12)) (C := "BlockPicturesModel") (T := bF_M) (N := 48) hx hb htb bm_in_M hown hK hP 0 (bm_gM E m1) rfl 12 (by decide) (htb _ tw_780) (fun _ h9 => h9) rfl (dt_bm_M_work 96 rfl) ?_
    refine lv_if_ne (tgt := 180) hx hb (dt_bm_M_work 97 rfl) (by decide) (fun hc => ?_) (fun hc => ?_)
    · replace h := (if_pos hc).symm.trans h
      exact hL180 _ _ _ h ls H locs (lv_sub hl [0, 1, 2] rfl) hP hD hS
    · replace h := (if_neg (fun hn => hn hc)).symm.trans h
      refine lv_iload_n hx hb (dt_bm_M_work 98 rfl) rfl (lv_at hl 1 rfl) ?_
      refine lv_bipush (v := 7) hx hb (dt_bm_M_work 99 rfl) (by decide) ?_
      refine lv_icmp_ne (tgt := 180) hx hb (dt_bm_M_work 100 rfl) (by decide) (fun hc => ?_) (fun hc => ?_)
      · replace h := (if_pos hc).symm.trans h
        exact hL180 _ _ _ h ls H locs (lv_sub hl [0, 1, 2] rfl) hP hD hS
      · replace h := (if_neg (fun hn => hn hc)).symm.trans h
        refine lv_aload_n hx hb (dt_bm_M_work 101 rfl) rfl (lv_at hl 0 rfl) ?_
        obtain ⟨m2, hm2, h⟩ := bp_cV_s h
        refine bm_callV E hsub hS (va_runV (As := []) (rest := []) ⟨hx, hb, hml, hown, htb⟩ (wbm_M_parameters l E N  m1 H.size m2 hm2) (cwV 0 htb (bp_goodV tw_936 tw_938 tw_37 tw_79 tw_939) rfl rfl rfl ⟨rfl, hd_bm_M_parameters⟩ ⟨Nat.le_of_ble_eq_true rfl, Nat.le_of_ble_eq_true rfl⟩) (bm_preV E hsub hst hK hP hD hS (bm_gM E m1) rfl rfl _) rfl rfl hl.1 rfl (lv_room (Nat.le_of_ble_eq_true rfl)) (dt_bm_M_work 102 rfl) ⟨Nat.zero_le _, Nat.zero_le _⟩) (fun H locs hP hD hS => ?_)
        refine lv_goto (tgt := 202) hx hb (dt_bm_M_work 103 rfl) (by decide) ?_
        exact hL202 _ h ls H locs (lv_sub hl [0] rfl) hP hD hS
  have hL144 : ∀ (x1 : Int32) (x2 : Int32) (m : bp_M), bm_M_work_L144 N x1 x2 m = some mr → ∀ (ls : Array Slot) (H : Heap) (locs : List Loc), lv_has ls 4 [(0, .ref (E.2.1 0)), (1, .int x1), (2, .int x2)] → va_P E.1 bp_cl (bm_W E m) H → va_D A (bm_W E m) → va_S A s.heap H locs → W p l e ({ frames := 7, cells := 0, slots := 0, locals := 180 }) s mt args below meth c H locs 0 0 Q (F0 mt 144 ls []) := by
    intro x1 x2 m h ls H locs hl hP hD hS
    rw [bm_M_work_L144] at h
    refine lv_aload_n hx hb (dt_bm_M_work 87 rfl) rfl (lv_at hl 0 rfl) ?_
    refine lv_aload_n hx hb (dt_bm_M_work 88 rfl) rfl (lv_at hl 0 rfl) ?_
    refine va_get (D := E.1) (ci := 10) (v := .int (m.1 0 10)) (C := "BlockPicturesModel") (T := bF_M) (N := 48) hx hb htb bm_in_M hown hK hP 0 (bm_gM E m) rfl 10 (by decide) (htb _ tw_778) (fun _ h9 => h9) rfl (dt_bm_M_work 89 rfl) ?_
    refine lv_if_ge (tgt := 156) hx hb (dt_bm_M_work 90 rfl) (by decide) (fun hc => ?_) (fun hc => ?_)
    · replace h := (if_pos hc).symm.trans h
      refine lv_iconst (v := 0) hx hb (dt_bm_M_work 93 rfl) (by decide) ?_
      exact hL157 _ _ _ _ h ls H locs (lv_sub hl [0, 1, 2] rfl) hP hD hS
    · replace h := (if_neg hc).symm.trans h
      refine lv_iconst (v := 4) hx hb (dt_bm_M_work 91 rfl) (by decide) ?_
      refine lv_goto (tgt := 157) hx hb (dt_bm_M_work 92 rfl) (by decide) ?_
      exact hL157 _ _ _ _ h ls H locs (lv_sub hl [0, 1, 2] rfl) hP hD hS
  have hL94 : ∀ (n94 : Nat) (x1 : Int32) (x2 : Int32) (m : bp_M), bm_M_work_L94 N n94 x1 x2 m = some mr → ∀ (ls : Array Slot) (H : Heap) (locs : List Loc), lv_has ls 4 [(0, .ref (E.2.1 0)), (1, .int x1), (2, .int x2)] → va_P E.1 bp_cl (bm_W E m) H → va_D A (bm_W E m) → va_S A s.heap H locs → W p l e ({ frames := 7, cells := 0, slots := 0, locals := 180 }) s mt args below meth c H locs 0 0 Q (F0 mt 94 ls []) := by
    intro n94
    induction n94 with
    | zero =>
      intro x1 x2 m h ls H locs hl hP hD hS
      rw [bm_M_work_L94] at h
      cases h
    | succ n94 ih94 =>
      intro x1 x2 m h ls H locs hl hP hD hS
      rw [bm_M_work_L94] at h
      refine lv_aload_n hx hb (dt_bm_M_work 58 rfl) rfl (lv_at hl 0 rfl) ?_
      refine va_get (D := E.1) (ci := 10) (v := .int (m.1 0 10)) (C := "BlockPicturesModel") (T := bF_M) (N := 48) hx hb htb bm_in_M hown hK hP 0 (bm_gM E m) rfl 10 (by decide) (htb _ tw_778) (fun _ h9 => h9) rfl (dt_bm_M_work 59 rfl) ?_
      refine lv_if_lt (tgt := 144) hx hb (dt_bm_M_work 60 rfl) (by decide) (fun hc => ?_) (fun hc => ?_)
      · replace h := (if_pos hc).symm.trans h
        exact hL144 _ _ _ h ls H locs (lv_sub hl [0, 1, 2] rfl) hP hD hS
      · replace h := (if_neg hc).symm.trans h
        refine lv_aload_n hx hb (dt_bm_M_work 61 rfl) rfl (lv_at hl 0 rfl) ?_
        refine va_get (D := E.1) (ci := 10) (v := .ref (E.2.1 4)) (C := "BlockPicturesModel") (T := bF_M) (N := 48) hx hb htb bm_in_M hown hK hP 0 (bm_gM E m) rfl 3 (by decide) (htb _ tw_771) (fun _ h9 => h9) rfl (dt_bm_M_work 62 rfl) ?_
        refine lv_iconst (v := 1) hx hb (dt_bm_M_work 63 rfl) (by decide) ?_
        refine lv_aload_n hx hb (dt_bm_M_work 64 rfl) rfl (lv_at hl 0 rfl) ?_
        refine va_get (D := E.1) (ci := 10) (v := .int (m.1 0 10)) (C := "BlockPicturesModel") (T := bF_M) (N := 48) hx hb htb bm_in_M hown hK hP 0 (bm_gM E m) rfl 10 (by decide) (htb _ tw_778) (fun _ h9 => h9) rfl (dt_bm_M_work 65 rfl) ?_
        refine lv_bipush (v := 8) hx hb (dt_bm_M_work 66 rfl) (by decide) ?_
        refine lv_idiv hx hb (dt_bm_M_work 67 rfl) (by decide) ?_
        refine lv_iadd hx hb (dt_bm_M_work 68 rfl) ?_
        obtain ⟨hg1, h⟩ := bp_gi_s h
        refine bm_lI E hx hb hK hP (bm_ga4 E) hg1 (dt_bm_M_work 69 rfl) ?_
        refine lv_bipush (v := 7) hx hb (dt_bm_M_work 70 rfl) (by decide) ?_
        refine lv_aload_n hx hb (dt_bm_M_work 71 rfl) rfl (lv_at hl 0 rfl) ?_
        refine va_get (D := E.1) (ci := 10) (v := .int (m.1 0 10)) (C := "BlockPicturesModel") (T := bF_M) (N := 48) hx hb htb bm_in_M hown hK hP 0 (bm_gM E m) rfl 10 (by decide) (htb _ tw_778) (fun _ h9 => h9) rfl (dt_bm_M_work 72 rfl) ?_
        refine lv_bipush (v := 8) hx hb (dt_bm_M_work 73 rfl) (by decide) ?_
        refine lv_irem hx hb (dt_bm_M_work 74 rfl) (by decide) ?_
        refine lv_isub hx hb (dt_bm_M_work 75 rfl) ?_
        refine lv_ishr hx hb (dt_bm_M_work 76 rfl) ?_
        refine lv_iconst (v := 1) hx hb (dt_bm_M_work 77 rfl) (by decide) ?_
        refine lv_iand hx hb (dt_bm_M_work 78 rfl) ?_
        refine lv_if_ne (tgt := 144) hx hb (dt_bm_M_work 79 rfl) (by decide) (fun hc => ?_) (fun hc => ?_)
        · replace h := (if_pos hc).symm.trans h
          exact hL144 _ _ _ h ls H locs (lv_sub hl [0, 1, 2] rfl) hP hD hS
        · replace h := (if_neg (fun hn => hn hc)).symm.trans h
          refine lv_aload_n hx hb (dt_bm_M_work 80 rfl) rfl (lv_at hl 0 rfl) ?_
          refine lv_dup hx hb (dt_bm_M_work 81 rfl) rfl ?_
          refine va_get (D := E.1) (ci := 10) (v := .int (m.1 0 10)) (C := "BlockPicturesModel") (T := bF_M) (N := 48) hx hb htb bm_in_M hown hK hP 0 (bm_gM E m) rfl 10 (by decide) (htb _ tw_778) (fun _ h9 => h9) rfl (dt_bm_M_work 82 rfl) ?_
          refine lv_iconst (v := 1) hx hb (dt_bm_M_work 83 rfl) (by decide) ?_
          refine lv_isub hx hb (dt_bm_M_work 84 rfl) ?_
          refine bm_pM_10 E hx hb htb hown hK hP hD hS (htb _ tw_778) (dt_bm_M_work 85 rfl) (fun m2 em2 H locs hP hD hS => ?_)
          replace h := bp_nM_s h em2
          refine lv_goto (tgt := 94) hx hb (dt_bm_M_work 86 rfl) (by decide) ?_
          exact ih94 _ _ _ h ls H locs (lv_sub hl [0, 1, 2] rfl) hP hD hS
  have hL62 : ∀ (x1 : Int32) (x2 : Int32) (s0 : Int32) (m : bp_M), bm_M_work_L62 N x1 x2 s0 m = some mr → ∀ (ls : Array Slot) (H : Heap) (locs : List Loc), lv_has ls 4 [(0, .ref (E.2.1 0)), (1, .int x1), (2, .int x2)] → va_P E.1 bp_cl (bm_W E m) H → va_D A (bm_W E m) → va_S A s.heap H locs → W p l e ({ frames := 7, cells := 0, slots := 0, locals := 180 }) s mt args below meth c H locs 0 0 Q (F0 mt 62 ls [.int s0]) := by
    intro x1 x2 s0 m h ls H locs hl hP hD hS
    rw [bm_M_work_L62] at h
    refine lv_istore_n hx hb (dt_bm_M_work 39 rfl) rfl hl (Nat.le_of_ble_eq_true rfl) rfl (fun ls hl => ?_)
    have hl : lv_has ls 4 [(3, .int s0), (0, .ref (E.2.1 0)), (1, .int x1), (2, .int x2)] := hl
    refine lv_iload_n hx hb (dt_bm_M_work 40 rfl) rfl (lv_at hl 0 rfl) ?_
    refine lv_if_eq (tgt := 202) hx hb (dt_bm_M_work 41 rfl) (by decide) (fun hc => ?_) (fun hc => ?_)
    · replace h := (if_pos hc).symm.trans h
      exact hL202 _ h ls H locs (lv_sub hl [1] rfl) hP hD hS
    · replace h := (if_neg hc).symm.trans h
      refine lv_aload_n hx hb (dt_bm_M_work 42 rfl) rfl (lv_at hl 1 rfl) ?_
      refine va_get (D := E.1) (ci := 10) (v := .int (m.1 0 12)) (C := "BlockPicturesModel") (T := bF_M) (N := 48) hx hb htb bm_in_M hown hK hP 0 (bm_gM E m) rfl 12 (by decide) (htb _ tw_780) (fun _ h9 => h9) rfl (dt_bm_M_work 43 rfl) ?_
      refine lv_if_ne (tgt := 202) hx hb (dt_bm_M_work 44 rfl) (by decide) (fun hc => ?_) (fun hc => ?_)
      · replace h := (if_pos hc).symm.trans h
        exact hL202 _ h ls H locs (lv_sub hl [1] rfl) hP hD hS
      · replace h := (if_neg (fun hn => hn hc)).symm.trans h
        refine lv_aload_n hx hb (dt_bm_M_work 45 rfl) rfl (lv_at hl 1 rfl) ?_
        refine lv_iconst (v := 0) hx hb (dt_bm_M_work 46 rfl) (by decide) ?_
        refine bm_pM_11 E hx hb htb hown hK hP hD hS (htb _ tw_779) (dt_bm_M_work 47 rfl) (fun m1 em1 H locs hP hD hS => ?_)
        replace h := bp_nM_s h em1
        refine lv_aload_n hx hb (dt_bm_M_work 48 rfl) rfl (lv_at hl 1 rfl) ?_
        refine lv_bipush (v := 8) hx hb (dt_bm_M_work 49 rfl) (by decide) ?_
        refine lv_aload_n hx hb (dt_bm_M_work 50 rfl) rfl (lv_at hl 1 rfl) ?_
        refine va_get (D := E.1) (ci := 10) (v := .int (m1.1 0 4)) (C := "BlockPicturesModel") (T := bF_M) (N := 48) hx hb htb bm_in_M hown hK hP 0 (bm_gM E m1) rfl 4 (by decide) (htb _ tw_772) (fun _ h9 => h9) rfl (dt_bm_M_work 51 rfl) ?_
        refine lv_iconst (v := 1) hx hb (dt_bm_M_work 52 rfl) (by decide) ?_
        refine lv_isub hx hb (dt_bm_M_work 53 rfl) ?_
        refine lv_imul hx hb (dt_bm_M_work 54 rfl) ?_
        refine lv_iconst (v := 1) hx hb (dt_bm_M_work 55 rfl) (by decide) ?_
        refine lv_isub hx hb (dt_bm_M_work 56 rfl) ?_
        refine bm_pM_10 E hx hb htb hown hK hP hD hS (htb _ tw_778) (dt_bm_M_work 57 rfl) (fun m2 em2 H locs hP hD hS => ?_)
        replace h := bp_nM_s h em2
        exact hL94 _ _ _ _ h ls H locs (lv_sub hl [1, 2, 3] rfl) hP hD hS
  have hL57 : ∀ (x1 : Int32) (x2 : Int32) (m : bp_M), bm_M_work_L57 N x1 x2 m = some mr → ∀ (ls : Array Slot) (H : Heap) (locs : List Loc), lv_has ls 4 [(0, .ref (E.2.1 0)), (1, .int x1), (2, .int x2)] → va_P E.1 bp_cl (bm_W E m) H → va_D A (bm_W E m) → va_S A s.heap H locs → W p l e ({ frames := 7, cells := 0, slots := 0, locals := 180 }) s mt args below meth c H locs 0 0 Q (F0 mt 57 ls []) := by
    intro x1 x2 m h ls H locs hl hP hD hS
    rw [bm_M_work_L57] at h
    refine lv_iconst (v := 1) hx hb (dt_bm_M_work 36 rfl) (by decide) ?_
    refine lv_goto (tgt := 62) hx hb (dt_bm_M_work 37 rfl) (by decide) ?_
    exact hL62 _ _ _ _ h ls H locs (lv_sub hl [0, 1, 2] rfl) hP hD hS
  have hL17 : ∀ (s0 : Int32) (m : bp_M), bm_M_work_L17 N s0 m = some mr → ∀ (ls : Array Slot) (H : Heap) (locs : List Loc), lv_has ls 4 [(0, .ref (E.2.1 0))] → va_P E.1 bp_cl (bm_W E m) H → va_D A (bm_W E m) → va_S A s.heap H locs → W p l e ({ frames := 7, cells := 0, slots := 0, locals := 180 }) s mt args below meth c H locs 0 0 Q (F0 mt 17 ls [.int s0, .ref (E.2.1 0)]) := by
    intro s0 m h ls H locs hl hP hD hS
    rw [bm_M_work_L17] at h
    refine bm_pM_12 E hx hb htb hown hK hP hD hS (htb _ tw_780) (dt_bm_M_work 10 rfl) (fun m1 em1 H locs hP hD hS => ?_)
    replace h := bp_nM_s h em1
    refine lv_aload_n hx hb (dt_bm_M_work 11 rfl) rfl (lv_at hl 0 rfl) ?_
    refine va_get (D := E.1) (ci := 10) (v := .ref (E.2.1 4)) (C := "BlockPicturesModel") (T := bF_M) (N := 48) hx hb htb bm_in_M hown hK hP 0 (bm_gM E m1) rfl 3 (by decide) (htb _ tw_771) (fun _ h9 => h9) rfl (dt_bm_M_work 12 rfl) ?_
    refine lv_iconst (v := 0) hx hb (dt_bm_M_work 13 rfl) (by decide) ?_
    obtain ⟨hg2, h⟩ := bp_gi_s h
    refine bm_lI E hx hb hK hP (bm_ga4 E) hg2 (dt_bm_M_work 14 rfl) ?_
    refine lv_bipush (v := 31) hx hb (dt_bm_M_work 15 rfl) (by decide) ?_
    refine lv_iand hx hb (dt_bm_M_work 16 rfl) ?_
    refine lv_topi (fun y3 ey3 => ?_)
    replace h := bp_nI_s h ey3
    refine lv_istore_n hx hb (dt_bm_M_work 17 rfl) rfl hl (Nat.le_of_ble_eq_true rfl) rfl (fun ls hl => ?_)
    have hl : lv_has ls 4 [(1, .int y3), (0, .ref (E.2.1 0))] := hl
    refine lv_aload_n hx hb (dt_bm_M_work 18 rfl) rfl (lv_at hl 1 rfl) ?_
    refine va_get (D := E.1) (ci := 10) (v := .ref (E.2.1 4)) (C := "BlockPicturesModel") (T := bF_M) (N := 48) hx hb htb bm_in_M hown hK hP 0 (bm_gM E m1) rfl 3 (by decide) (htb _ tw_771) (fun _ h9 => h9) rfl (dt_bm_M_work 19 rfl) ?_
    refine lv_iconst (v := 0) hx hb (dt_bm_M_work 20 rfl) (by decide) ?_
    obtain ⟨hg4, h⟩ := bp_gi_s h
    refine bm_lI E hx hb hK hP (bm_ga4 E) hg4 (dt_bm_M_work 21 rfl) ?_
    refine lv_iconst (v := 5) hx hb (dt_bm_M_work 22 rfl) (by decide) ?_
    refine lv_ishr hx hb (dt_bm_M_work 23 rfl) ?_
    refine lv_iconst (v := 3) hx hb (dt_bm_M_work 24 rfl) (by decide) ?_
    refine lv_iand hx hb (dt_bm_M_work 25 rfl) ?_
    refine lv_topi (fun y5 ey5 => ?_)
    replace h := bp_nI_s h ey5
    refine lv_istore_n hx hb (dt_bm_M_work 26 rfl) rfl hl (Nat.le_of_ble_eq_true rfl) rfl (fun ls hl => ?_)
    have hl : lv_has ls 4 [(2, .int y5), (1, .int y3), (0, .ref (E.2.1 0))] := hl
    refine lv_iload_n hx hb (dt_bm_M_work 27 rfl) rfl (lv_at hl 1 rfl) ?_
    refine lv_iconst (v := 1) hx hb (dt_bm_M_work 28 rfl) (by decide) ?_
    refine lv_icmp_eq (tgt := 57) hx hb (dt_bm_M_work 29 rfl) (by decide) (fun hc => ?_) (fun hc => ?_)
    · replace h := (if_pos hc).symm.trans h
      exact hL57 _ _ _ h ls H locs (lv_sub hl [2, 1, 0] rfl) hP hD hS
    · replace h := (if_neg hc).symm.trans h
      refine lv_iload_n hx hb (dt_bm_M_work 30 rfl) rfl (lv_at hl 1 rfl) ?_
      refine lv_iconst (v := 5) hx hb (dt_bm_M_work 31 rfl) (by decide) ?_
      refine lv_icmp_eq (tgt := 57) hx hb (dt_bm_M_work 32 rfl) (by decide) (fun hc => ?_) (fun hc => ?_)
      · replace h := (if_pos hc).symm.trans h
        exact hL57 _ _ _ h ls H locs (lv_sub hl [2, 1, 0] rfl) hP hD hS
      · replace h := (if_neg hc).symm.trans h
        refine lv_iload_n hx hb (dt_bm_M_work 33 rfl) rfl (lv_at hl 1 rfl) ?_
        refine lv_bipush (v := 7) hx hb (dt_bm_M_work 34 rfl) (by decide) ?_
        refine lv_icmp_ne (tgt := 61) hx hb (dt_bm_M_work 35 rfl) (by decide) (fun hc => ?_) (fun hc => ?_)
        · replace h := (if_pos hc).symm.trans h
          refine lv_iconst (v := 0) hx hb (dt_bm_M_work 38 rfl) (by decide) ?_
          exact hL62 _ _ _ _ h ls H locs (lv_sub hl [2, 1, 0] rfl) hP hD hS
        · replace h := (if_neg (fun hn => hn hc)).symm.trans h
          exact hL57 _ _ _ h ls H locs (lv_sub hl [2, 1, 0] rfl) hP hD hS
  suffices hgo : ∀ (H : Heap) (locs : List Loc), va_P E.1 bp_cl (bm_W E m) H → va_D A (bm_W E m) → va_S A s.heap H locs → W p l e ({ frames := 7, cells := 0, slots := 0, locals := 180 }) s mt args below meth c H locs 0 0 Q (F0 mt 0 ls []) from hgo _ _ hP hD hS
  clear hP hD hS
  intro H locs hP hD hS
  unfold bm_M_work at h
  refine lv_aload_n hx hb (dt_bm_M_work 0 rfl) rfl (lv_at hl 0 rfl) ?_
  refine lv_aload_n hx hb (dt_bm_M_work 1 rfl) rfl (lv_at hl 0 rfl) ?_
  refine va_get (D := E.1) (ci := 10) (v := .ref (E.2.1 4)) (C := "BlockPicturesModel") (T := bF_M) (N := 48) hx hb htb bm_in_M hown hK hP 0 (bm_gM E m) rfl 3 (by decide) (htb _ tw_771) (fun _ h9 => h9) rfl (dt_bm_M_work 2 rfl) ?_
  refine lv_iconst (v := 0) hx hb (dt_bm_M_work 3 rfl) (by decide) ?_
  obtain ⟨hg1, h⟩ := bp_gi_s h
  refine bm_lI E hx hb hK hP (bm_ga4 E) hg1 (dt_bm_M_work 4 rfl) ?_
  refine lv_bipush (v := 127) hx hb (dt_bm_M_work 5 rfl) (by decide) ?_
  refine lv_icmp_le (tgt := 16) hx hb (dt_bm_M_work 6 rfl) (by decide) (fun hc => ?_) (fun hc => ?_)
  · replace h := (if_pos hc).symm.trans h
    refine lv_iconst (v := 0) hx hb (dt_bm_M_work 9 rfl) (by decide) ?_
    exact hL17 _ _ h ls H locs (lv_sub hl [0] rfl) hP hD hS
  · replace h := (if_neg hc).symm.trans h
    refine lv_iconst (v := 1) hx hb (dt_bm_M_work 7 rfl) (by decide) ?_
    refine lv_goto (tgt := 17) hx hb (dt_bm_M_work 8 rfl) (by decide) ?_
    exact hL17 _ _ h ls H locs (lv_sub hl [0] rfl) hP hD hS
set_option maxHeartbeats 4000000 in
set_option maxRecDepth 100000 in
theorem wbm_M_finish (l : Launch) (E : bm_E) (N : Nat)  (m : bp_M) (sz : Nat) (mr : bp_M)  (h : bm_M_finish N m = some mr) : Met l y_bm_M_finish (Cond.code y_bm_M_finish prog_13_method_8_code 1 none :: bp_tb) ({ frames := 8, cells := 0, slots := 0, locals := 203 }) (bm_Pc E m sz [.ref (E.2.1 0)]) (bm_Qv E m sz mr) 0 0 (va_A (bm_W E m) sz) := by
  refine Met.ofW (cc := prog_13_method_8_code) (maxL := 1) (ret := none) (by decide) rfl ?_
  intro p e s mt args below meth c s₁ B hml hv
  obtain ⟨rfl, hsz, hP, hK, hD0, hst⟩ := hv
  have hx := B.exec
  have hb := B.bytes
  have hr := B.returns
  have htb : ∀ w ∈ bp_tb, w.before _ s = true := fun w hw => atoms_spec (ws := Cond.code y_bm_M_finish prog_13_method_8_code 1 none :: bp_tb) B.pre w (List.mem_cons_of_mem _ hw)
  have hown : s.vm.findClass "BlockPicturesModel" = some mt.cls := findClass_of_methodNamed B.named
  have hlocks := B.notSynchronized
  subst hsz
  have hD := hD0.self (sz := s.heap.size)
  generalize hAe : va_A (bm_W E m) s.heap.size = A at hD hst ⊢
  have hsub : ∀ (u : bp_M) (z q : Nat), s.heap.size ≤ z → va_A (bm_W E u) z q → A q := bm_sub hAe
  have hS : va_S A s.heap s.heap [] := va_S.rf
  have hl := lv_entry ([.ref (E.2.1 0)]) (n := 1) (Nat.le_of_ble_eq_true rfl)
  rw [lg_entry_eq]
  generalize (lg_sl ([.ref (E.2.1 0)]) ++ List.replicate (1 - (lg_sl ([.ref (E.2.1 0)])).length) Slot.unset).toArray = ls at hl ⊢
  have hl : lv_has ls 1 [(0, .ref (E.2.1 0))] := hl
  refine bm_keyV (R := ({ frames := 8, cells := 0, slots := 0, locals := 203 })) E hx hb hr hlocks hK hAe (fun Q hret => ?_)
  clear B hD0 hlocks hr
  generalize ([.ref (E.2.1 0)] : List Value).toArray = args at htb hret ⊢
  clear hAe
  have hL21 : ∀ (m : bp_M), bm_M_finish_L21 N m = some mr → ∀ (ls : Array Slot) (H : Heap) (locs : List Loc), lv_has ls 1 [] → va_P E.1 bp_cl (bm_W E m) H → va_D A (bm_W E m) → va_S A s.heap H locs → W p l e ({ frames := 8, cells := 0, slots := 0, locals := 203 }) s mt args below meth c H locs 0 0 Q (F0 mt 21 ls []) := by
    intro m h ls H locs hl hP hD hS
    rw [bm_M_finish_L21] at h
    exact hret _ _ _ _ _ h hP hD hS (dt_bm_M_finish 11 rfl)
  suffices hgo : ∀ (H : Heap) (locs : List Loc), va_P E.1 bp_cl (bm_W E m) H → va_D A (bm_W E m) → va_S A s.heap H locs → W p l e ({ frames := 8, cells := 0, slots := 0, locals := 203 }) s mt args below meth c H locs 0 0 Q (F0 mt 0 ls []) from hgo _ _ hP hD hS
  clear hP hD hS
  intro H locs hP hD hS
  unfold bm_M_finish at h
  refine lv_aload_n hx hb (dt_bm_M_finish 0 rfl) rfl (lv_at hl 0 rfl) ?_
  refine va_get (D := E.1) (ci := 10) (v := .int (m.1 0 4)) (C := "BlockPicturesModel") (T := bF_M) (N := 48) hx hb htb bm_in_M hown hK hP 0 (bm_gM E m) rfl 4 (by decide) (htb _ tw_772) (fun _ h9 => h9) rfl (dt_bm_M_finish 1 rfl) ?_
  refine lv_if_le (tgt := 21) hx hb (dt_bm_M_finish 2 rfl) (by decide) (fun hc => ?_) (fun hc => ?_)
  · replace h := (if_pos hc).symm.trans h
    exact hL21 _ h ls H locs (lv_sub hl [] rfl) hP hD hS
  · replace h := (if_neg hc).symm.trans h
    refine lv_aload_n hx hb (dt_bm_M_finish 3 rfl) rfl (lv_at hl 0 rfl) ?_
    refine lv_dup hx hb (dt_bm_M_finish 4 rfl) rfl ?_
    refine va_get (D := E.1) (ci := 10) (v := .int (m.1 0 7)) (C := "BlockPicturesModel") (T := bF_M) (N := 48) hx hb htb bm_in_M hown hK hP 0 (bm_gM E m) rfl 7 (by decide) (htb _ tw_775) (fun _ h9 => h9) rfl (dt_bm_M_finish 5 rfl) ?_
    refine lv_iconst (v := 1) hx hb (dt_bm_M_finish 6 rfl) (by decide) ?_
    refine lv_iadd hx hb (dt_bm_M_finish 7 rfl) ?_
    refine bm_pM_7 E hx hb htb hown hK hP hD hS (htb _ tw_775) (dt_bm_M_finish 8 rfl) (fun m1 em1 H locs hP hD hS => ?_)
    replace h := bp_nM_s h em1
    refine lv_aload_n hx hb (dt_bm_M_finish 9 rfl) rfl (lv_at hl 0 rfl) ?_
    obtain ⟨m2, hm2, h⟩ := bp_cV_s h
    refine bm_callV E hsub hS (va_runV (As := []) (rest := []) ⟨hx, hb, hml, hown, htb⟩ (wbm_M_work l E N  m1 H.size m2 hm2) (cwV 0 htb (bp_goodV tw_932 tw_934 tw_36 tw_79 tw_935) rfl rfl rfl ⟨rfl, hd_bm_M_work⟩ ⟨Nat.le_of_ble_eq_true rfl, Nat.le_of_ble_eq_true rfl⟩) (bm_preV E hsub hst hK hP hD hS (bm_gM E m1) rfl rfl _) rfl rfl hl.1 rfl (lv_room (Nat.le_of_ble_eq_true rfl)) (dt_bm_M_finish 10 rfl) ⟨Nat.zero_le _, Nat.zero_le _⟩) (fun H locs hP hD hS => ?_)
    exact hL21 _ h ls H locs (lv_sub hl [] rfl) hP hD hS
set_option maxHeartbeats 4000000 in
set_option maxRecDepth 100000 in
theorem wbm_M_close (l : Launch) (E : bm_E) (N : Nat) (a1 : Int32) (m : bp_M) (sz : Nat) (mr : bp_M)  (h : bm_M_close N a1 m = some mr) : Met l y_bm_M_close (Cond.code y_bm_M_close prog_13_method_7_code 2 none :: bp_tb) ({ frames := 9, cells := 0, slots := 0, locals := 223 }) (bm_Pc E m sz [.ref (E.2.1 0), .int a1]) (bm_Qv E m sz mr) 0 0 (va_A (bm_W E m) sz) := by
  refine Met.ofW (cc := prog_13_method_7_code) (maxL := 2) (ret := none) (by decide) rfl ?_
  intro p e s mt args below meth c s₁ B hml hv
  obtain ⟨rfl, hsz, hP, hK, hD0, hst⟩ := hv
  have hx := B.exec
  have hb := B.bytes
  have hr := B.returns
  have htb : ∀ w ∈ bp_tb, w.before _ s = true := fun w hw => atoms_spec (ws := Cond.code y_bm_M_close prog_13_method_7_code 2 none :: bp_tb) B.pre w (List.mem_cons_of_mem _ hw)
  have hown : s.vm.findClass "BlockPicturesModel" = some mt.cls := findClass_of_methodNamed B.named
  have hlocks := B.notSynchronized
  subst hsz
  have hD := hD0.self (sz := s.heap.size)
  generalize hAe : va_A (bm_W E m) s.heap.size = A at hD hst ⊢
  have hsub : ∀ (u : bp_M) (z q : Nat), s.heap.size ≤ z → va_A (bm_W E u) z q → A q := bm_sub hAe
  have hS : va_S A s.heap s.heap [] := va_S.rf
  have hl := lv_entry ([.ref (E.2.1 0), .int a1]) (n := 2) (Nat.le_of_ble_eq_true rfl)
  rw [lg_entry_eq]
  generalize (lg_sl ([.ref (E.2.1 0), .int a1]) ++ List.replicate (2 - (lg_sl ([.ref (E.2.1 0), .int a1])).length) Slot.unset).toArray = ls at hl ⊢
  have hl : lv_has ls 2 [(0, .ref (E.2.1 0)), (1, .int a1)] := hl
  refine bm_keyV (R := ({ frames := 9, cells := 0, slots := 0, locals := 223 })) E hx hb hr hlocks hK hAe (fun Q hret => ?_)
  clear B hD0 hlocks hr
  generalize ([.ref (E.2.1 0), .int a1] : List Value).toArray = args at htb hret ⊢
  clear hAe
  have hL73 : ∀ (m : bp_M), bm_M_close_L73 N a1 m = some mr → ∀ (ls : Array Slot) (H : Heap) (locs : List Loc), lv_has ls 2 [] → va_P E.1 bp_cl (bm_W E m) H → va_D A (bm_W E m) → va_S A s.heap H locs → W p l e ({ frames := 9, cells := 0, slots := 0, locals := 223 }) s mt args below meth c H locs 0 0 Q (F0 mt 73 ls []) := by
    intro m h ls H locs hl hP hD hS
    rw [bm_M_close_L73] at h
    exact hret _ _ _ _ _ h hP hD hS (dt_bm_M_close 41 rfl)
  have hL65 : ∀ (s0 : Int32) (m : bp_M), bm_M_close_L65 N a1 s0 m = some mr → ∀ (ls : Array Slot) (H : Heap) (locs : List Loc), lv_has ls 2 [(0, .ref (E.2.1 0))] → va_P E.1 bp_cl (bm_W E m) H → va_D A (bm_W E m) → va_S A s.heap H locs → W p l e ({ frames := 9, cells := 0, slots := 0, locals := 223 }) s mt args below meth c H locs 0 0 Q (F0 mt 65 ls [.int s0, .ref (E.2.1 0)]) := by
    intro s0 m h ls H locs hl hP hD hS
    rw [bm_M_close_L65] at h
    refine bm_pM_6 E hx hb htb hown hK hP hD hS (htb _ tw_774) (dt_bm_M_close 37 rfl) (fun m1 em1 H locs hP hD hS => ?_)
    replace h := bp_nM_s h em1
    refine lv_aload_n hx hb (dt_bm_M_close 38 rfl) rfl (lv_at hl 0 rfl) ?_
    refine lv_iconst (v := 0) hx hb (dt_bm_M_close 39 rfl) (by decide) ?_
    refine bm_pM_4 E hx hb htb hown hK hP hD hS (htb _ tw_772) (dt_bm_M_close 40 rfl) (fun m2 em2 H locs hP hD hS => ?_)
    replace h := bp_nM_s h em2
    exact hL73 _ h ls H locs (lv_sub hl [] rfl) hP hD hS
  have hL51 : ∀ (s0 : Int32) (m : bp_M), bm_M_close_L51 N a1 s0 m = some mr → ∀ (ls : Array Slot) (H : Heap) (locs : List Loc), lv_has ls 2 [(0, .ref (E.2.1 0)), (1, .int a1)] → va_P E.1 bp_cl (bm_W E m) H → va_D A (bm_W E m) → va_S A s.heap H locs → W p l e ({ frames := 9, cells := 0, slots := 0, locals := 223 }) s mt args below meth c H locs 0 0 Q (F0 mt 51 ls [.int s0, .ref (E.2.1 0)]) := by
    intro s0 m h ls H locs hl hP hD hS
    rw [bm_M_close_L51] at h
    obtain ⟨hg2, h⟩ := bp_g_s h
    refine bm_pM_5 E hx hb htb hown hK hP hD hS hg2 (htb _ tw_773) (dt_bm_M_close 29 rfl) (fun m1 em1 H locs hP hD hS => ?_)
    replace h := bp_nM_s h em1
    refine lv_aload_n hx hb (dt_bm_M_close 30 rfl) rfl (lv_at hl 0 rfl) ?_
    refine lv_iload_n hx hb (dt_bm_M_close 31 rfl) rfl (lv_at hl 1 rfl) ?_
    refine lv_iconst (v := 1) hx hb (dt_bm_M_close 32 rfl) (by decide) ?_
    refine lv_icmp_ne (tgt := 64) hx hb (dt_bm_M_close 33 rfl) (by decide) (fun hc => ?_) (fun hc => ?_)
    · replace h := (if_pos hc).symm.trans h
      refine lv_iconst (v := 3) hx hb (dt_bm_M_close 36 rfl) (by decide) ?_
      exact hL65 _ _ h ls H locs (lv_sub hl [0] rfl) hP hD hS
    · replace h := (if_neg (fun hn => hn hc)).symm.trans h
      refine lv_iconst (v := 0) hx hb (dt_bm_M_close 34 rfl) (by decide) ?_
      refine lv_goto (tgt := 65) hx hb (dt_bm_M_close 35 rfl) (by decide) ?_
      exact hL65 _ _ h ls H locs (lv_sub hl [0] rfl) hP hD hS
  suffices hgo : ∀ (H : Heap) (locs : List Loc), va_P E.1 bp_cl (bm_W E m) H → va_D A (bm_W E m) → va_S A s.heap H locs → W p l e ({ frames := 9, cells := 0, slots := 0, locals := 223 }) s mt args below meth c H locs 0 0 Q (F0 mt 0 ls []) from hgo _ _ hP hD hS
  clear hP hD hS
  intro H locs hP hD hS
  unfold bm_M_close at h
  refine lv_iload_n hx hb (dt_bm_M_close 0 rfl) rfl (lv_at hl 1 rfl) ?_
  refine lv_iconst (v := 3) hx hb (dt_bm_M_close 1 rfl) (by decide) ?_
  refine lv_icmp_ne (tgt := 13) hx hb (dt_bm_M_close 2 rfl) (by decide) (fun hc => ?_) (fun hc => ?_)
  · replace h := (if_pos hc).symm.trans h
    refine lv_iload_n hx hb (dt_bm_M_close 7 rfl) rfl (lv_at hl 1 rfl) ?_
    refine lv_iconst (v := 2) hx hb (dt_bm_M_close 8 rfl) (by decide) ?_
    refine lv_icmp_ne (tgt := 26) hx hb (dt_bm_M_close 9 rfl) (by decide) (fun hc => ?_) (fun hc => ?_)
    · replace h := (if_pos hc).symm.trans h
      refine lv_aload_n hx hb (dt_bm_M_close 14 rfl) rfl (lv_at hl 0 rfl) ?_
      refine lv_dup hx hb (dt_bm_M_close 15 rfl) rfl ?_
      refine va_get (D := E.1) (ci := 10) (v := .int (m.1 0 4)) (C := "BlockPicturesModel") (T := bF_M) (N := 48) hx hb htb bm_in_M hown hK hP 0 (bm_gM E m) rfl 4 (by decide) (htb _ tw_772) (fun _ h9 => h9) rfl (dt_bm_M_close 16 rfl) ?_
      refine lv_iconst (v := 2) hx hb (dt_bm_M_close 17 rfl) (by decide) ?_
      refine lv_isub hx hb (dt_bm_M_close 18 rfl) ?_
      refine bm_pM_4 E hx hb htb hown hK hP hD hS (htb _ tw_772) (dt_bm_M_close 19 rfl) (fun m1 em1 H locs hP hD hS => ?_)
      replace h := bp_nM_s h em1
      refine lv_aload_n hx hb (dt_bm_M_close 20 rfl) rfl (lv_at hl 0 rfl) ?_
      obtain ⟨m2, hm2, h⟩ := bp_cV_s h
      refine bm_callV E hsub hS (va_runV (As := []) (rest := []) ⟨hx, hb, hml, hown, htb⟩ (wbm_M_finish l E N  m1 H.size m2 hm2) (cwV 0 htb (bp_goodV tw_928 tw_930 tw_35 tw_79 tw_931) rfl rfl rfl ⟨rfl, hd_bm_M_finish⟩ ⟨Nat.le_of_ble_eq_true rfl, Nat.le_of_ble_eq_true rfl⟩) (bm_preV E hsub hst hK hP hD hS (bm_gM E m1) rfl rfl _) rfl rfl hl.1 rfl (lv_room (Nat.le_of_ble_eq_true rfl)) (dt_bm_M_close 21 rfl) ⟨Nat.zero_le _, Nat.zero_le _⟩) (fun H locs hP hD hS => ?_)
      refine lv_aload_n hx hb (dt_bm_M_close 22 rfl) rfl (lv_at hl 0 rfl) ?_
      refine lv_iload_n hx hb (dt_bm_M_close 23 rfl) rfl (lv_at hl 1 rfl) ?_
      refine lv_iconst (v := 1) hx hb (dt_bm_M_close 24 rfl) (by decide) ?_
      refine lv_icmp_ne (tgt := 50) hx hb (dt_bm_M_close 25 rfl) (by decide) (fun hc => ?_) (fun hc => ?_)
      · replace h := (if_pos hc).symm.trans h
        refine lv_iconst (v := 0) hx hb (dt_bm_M_close 28 rfl) (by decide) ?_
        exact hL51 _ _ h ls H locs (lv_sub hl [0, 1] rfl) hP hD hS
      · replace h := (if_neg (fun hn => hn hc)).symm.trans h
        refine lv_iconst (v := 1) hx hb (dt_bm_M_close 26 rfl) (by decide) ?_
        refine lv_goto (tgt := 51) hx hb (dt_bm_M_close 27 rfl) (by decide) ?_
        exact hL51 _ _ h ls H locs (lv_sub hl [0, 1] rfl) hP hD hS
    · replace h := (if_neg (fun hn => hn hc)).symm.trans h
      refine lv_aload_n hx hb (dt_bm_M_close 10 rfl) rfl (lv_at hl 0 rfl) ?_
      refine lv_iconst (v := 2) hx hb (dt_bm_M_close 11 rfl) (by decide) ?_
      refine bm_pM_8 E hx hb htb hown hK hP hD hS (htb _ tw_776) (dt_bm_M_close 12 rfl) (fun m3 em3 H locs hP hD hS => ?_)
      replace h := bp_nM_s h em3
      refine lv_goto (tgt := 73) hx hb (dt_bm_M_close 13 rfl) (by decide) ?_
      exact hL73 _ h ls H locs (lv_sub hl [] rfl) hP hD hS
  · replace h := (if_neg (fun hn => hn hc)).symm.trans h
    refine lv_aload_n hx hb (dt_bm_M_close 3 rfl) rfl (lv_at hl 0 rfl) ?_
    refine lv_iconst (v := 0) hx hb (dt_bm_M_close 4 rfl) (by decide) ?_
    refine bm_pM_6 E hx hb htb hown hK hP hD hS (htb _ tw_774) (dt_bm_M_close 5 rfl) (fun m4 em4 H locs hP hD hS => ?_)
    replace h := bp_nM_s h em4
    refine lv_goto (tgt := 73) hx hb (dt_bm_M_close 6 rfl) (by decide) ?_
    exact hL73 _ h ls H locs (lv_sub hl [] rfl) hP hD hS
set_option maxHeartbeats 4000000 in
set_option maxRecDepth 100000 in
theorem wbm_M_take (l : Launch) (E : bm_E) (N : Nat) (a1 : Int32) (m : bp_M) (sz : Nat) (mr : bp_M)  (h : bm_M_take N a1 m = some mr) : Met l y_bm_M_take (Cond.code y_bm_M_take prog_13_method_6_code 2 none :: bp_tb) ({ frames := 10, cells := 0, slots := 0, locals := 244 }) (bm_Pc E m sz [.ref (E.2.1 0), .int a1]) (bm_Qv E m sz mr) 0 0 (va_A (bm_W E m) sz) := by
  refine Met.ofW (cc := prog_13_method_6_code) (maxL := 2) (ret := none) (by decide) rfl ?_
  intro p e s mt args below meth c s₁ B hml hv
  obtain ⟨rfl, hsz, hP, hK, hD0, hst⟩ := hv
  have hx := B.exec
  have hb := B.bytes
  have hr := B.returns
  have htb : ∀ w ∈ bp_tb, w.before _ s = true := fun w hw => atoms_spec (ws := Cond.code y_bm_M_take prog_13_method_6_code 2 none :: bp_tb) B.pre w (List.mem_cons_of_mem _ hw)
  have hown : s.vm.findClass "BlockPicturesModel" = some mt.cls := findClass_of_methodNamed B.named
  have hlocks := B.notSynchronized
  subst hsz
  have hD := hD0.self (sz := s.heap.size)
  generalize hAe : va_A (bm_W E m) s.heap.size = A at hD hst ⊢
  have hsub : ∀ (u : bp_M) (z q : Nat), s.heap.size ≤ z → va_A (bm_W E u) z q → A q := bm_sub hAe
  have hS : va_S A s.heap s.heap [] := va_S.rf
  have hl := lv_entry ([.ref (E.2.1 0), .int a1]) (n := 2) (Nat.le_of_ble_eq_true rfl)
  rw [lg_entry_eq]
  generalize (lg_sl ([.ref (E.2.1 0), .int a1]) ++ List.replicate (2 - (lg_sl ([.ref (E.2.1 0), .int a1])).length) Slot.unset).toArray = ls at hl ⊢
  have hl : lv_has ls 2 [(0, .ref (E.2.1 0)), (1, .int a1)] := hl
  refine bm_keyV (R := ({ frames := 10, cells := 0, slots := 0, locals := 244 })) E hx hb hr hlocks hK hAe (fun Q hret => ?_)
  clear B hD0 hlocks hr
  generalize ([.ref (E.2.1 0), .int a1] : List Value).toArray = args at htb hret ⊢
  clear hAe
  have hL136 : ∀ (m : bp_M), bm_M_take_L136 N a1 m = some mr → ∀ (ls : Array Slot) (H : Heap) (locs : List Loc), lv_has ls 2 [] → va_P E.1 bp_cl (bm_W E m) H → va_D A (bm_W E m) → va_S A s.heap H locs → W p l e ({ frames := 10, cells := 0, slots := 0, locals := 244 }) s mt args below meth c H locs 0 0 Q (F0 mt 136 ls []) := by
    intro m h ls H locs hl hP hD hS
    rw [bm_M_take_L136] at h
    exact hret _ _ _ _ _ h hP hD hS (dt_bm_M_take 72 rfl)
  have hL133 : ∀ (s0 : Int32) (m : bp_M), bm_M_take_L133 N a1 s0 m = some mr → ∀ (ls : Array Slot) (H : Heap) (locs : List Loc), lv_has ls 2 [] → va_P E.1 bp_cl (bm_W E m) H → va_D A (bm_W E m) → va_S A s.heap H locs → W p l e ({ frames := 10, cells := 0, slots := 0, locals := 244 }) s mt args below meth c H locs 0 0 Q (F0 mt 133 ls [.int s0, .ref (E.2.1 0)]) := by
    intro s0 m h ls H locs hl hP hD hS
    rw [bm_M_take_L133] at h
    refine bm_pM_6 E hx hb htb hown hK hP hD hS (htb _ tw_774) (dt_bm_M_take 71 rfl) (fun m1 em1 H locs hP hD hS => ?_)
    replace h := bp_nM_s h em1
    exact hL136 _ h ls H locs (lv_sub hl [] rfl) hP hD hS
  have hL80 : ∀ (m : bp_M), bm_M_take_L80 N a1 m = some mr → ∀ (ls : Array Slot) (H : Heap) (locs : List Loc), lv_has ls 2 [(0, .ref (E.2.1 0)), (1, .int a1)] → va_P E.1 bp_cl (bm_W E m) H → va_D A (bm_W E m) → va_S A s.heap H locs → W p l e ({ frames := 10, cells := 0, slots := 0, locals := 244 }) s mt args below meth c H locs 0 0 Q (F0 mt 80 ls []) := by
    intro m h ls H locs hl hP hD hS
    rw [bm_M_take_L80] at h
    refine lv_aload_n hx hb (dt_bm_M_take 42 rfl) rfl (lv_at hl 0 rfl) ?_
    refine va_get (D := E.1) (ci := 10) (v := .int (m.1 0 4)) (C := "BlockPicturesModel") (T := bF_M) (N := 48) hx hb htb bm_in_M hown hK hP 0 (bm_gM E m) rfl 4 (by decide) (htb _ tw_772) (fun _ h9 => h9) rfl (dt_bm_M_take 43 rfl) ?_
    refine lv_sipush (v := 320) hx hb (dt_bm_M_take 44 rfl) (by decide) ?_
    refine lv_icmp_ne (tgt := 98) hx hb (dt_bm_M_take 45 rfl) (by decide) (fun hc => ?_) (fun hc => ?_)
    · replace h := (if_pos hc).symm.trans h
      refine lv_aload_n hx hb (dt_bm_M_take 50 rfl) rfl (lv_at hl 0 rfl) ?_
      refine va_get (D := E.1) (ci := 10) (v := .ref (E.2.1 4)) (C := "BlockPicturesModel") (T := bF_M) (N := 48) hx hb htb bm_in_M hown hK hP 0 (bm_gM E m) rfl 3 (by decide) (htb _ tw_771) (fun _ h9 => h9) rfl (dt_bm_M_take 51 rfl) ?_
      refine lv_aload_n hx hb (dt_bm_M_take 52 rfl) rfl (lv_at hl 0 rfl) ?_
      refine va_get (D := E.1) (ci := 10) (v := .int (m.1 0 4)) (C := "BlockPicturesModel") (T := bF_M) (N := 48) hx hb htb bm_in_M hown hK hP 0 (bm_gM E m) rfl 4 (by decide) (htb _ tw_772) (fun _ h9 => h9) rfl (dt_bm_M_take 53 rfl) ?_
      refine lv_iload_n hx hb (dt_bm_M_take 54 rfl) rfl (lv_at hl 1 rfl) ?_
      obtain ⟨hg1, h⟩ := bp_gi_s h
      refine bm_sI E hx hb hK hP hD hS (bm_ga4 E) hg1 (dt_bm_M_take 55 rfl) (fun m2 em2 H locs hP hD hS => ?_)
      replace h := bp_nM_s h em2
      refine lv_aload_n hx hb (dt_bm_M_take 56 rfl) rfl (lv_at hl 0 rfl) ?_
      refine lv_dup hx hb (dt_bm_M_take 57 rfl) rfl ?_
      refine va_get (D := E.1) (ci := 10) (v := .int (m2.1 0 4)) (C := "BlockPicturesModel") (T := bF_M) (N := 48) hx hb htb bm_in_M hown hK hP 0 (bm_gM E m2) rfl 4 (by decide) (htb _ tw_772) (fun _ h9 => h9) rfl (dt_bm_M_take 58 rfl) ?_
      refine lv_iconst (v := 1) hx hb (dt_bm_M_take 59 rfl) (by decide) ?_
      refine lv_iadd hx hb (dt_bm_M_take 60 rfl) ?_
      refine bm_pM_4 E hx hb htb hown hK hP hD hS (htb _ tw_772) (dt_bm_M_take 61 rfl) (fun m3 em3 H locs hP hD hS => ?_)
      replace h := bp_nM_s h em3
      refine lv_aload_n hx hb (dt_bm_M_take 62 rfl) rfl (lv_at hl 0 rfl) ?_
      refine lv_iload_n hx hb (dt_bm_M_take 63 rfl) rfl (lv_at hl 1 rfl) ?_
      refine lv_if_ne (tgt := 132) hx hb (dt_bm_M_take 64 rfl) (by decide) (fun hc => ?_) (fun hc => ?_)
      · replace h := (if_pos hc).symm.trans h
        refine lv_iconst (v := 0) hx hb (dt_bm_M_take 70 rfl) (by decide) ?_
        exact hL133 _ _ h ls H locs (lv_sub hl [] rfl) hP hD hS
      · replace h := (if_neg (fun hn => hn hc)).symm.trans h
        refine lv_aload_n hx hb (dt_bm_M_take 65 rfl) rfl (lv_at hl 0 rfl) ?_
        refine va_get (D := E.1) (ci := 10) (v := .int (m3.1 0 6)) (C := "BlockPicturesModel") (T := bF_M) (N := 48) hx hb htb bm_in_M hown hK hP 0 (bm_gM E m3) rfl 6 (by decide) (htb _ tw_774) (fun _ h9 => h9) rfl (dt_bm_M_take 66 rfl) ?_
        refine lv_iconst (v := 1) hx hb (dt_bm_M_take 67 rfl) (by decide) ?_
        refine lv_iadd hx hb (dt_bm_M_take 68 rfl) ?_
        refine lv_goto (tgt := 133) hx hb (dt_bm_M_take 69 rfl) (by decide) ?_
        exact hL133 _ _ h ls H locs (lv_sub hl [] rfl) hP hD hS
    · replace h := (if_neg (fun hn => hn hc)).symm.trans h
      refine lv_aload_n hx hb (dt_bm_M_take 46 rfl) rfl (lv_at hl 0 rfl) ?_
      refine lv_iconst (v := 3) hx hb (dt_bm_M_take 47 rfl) (by decide) ?_
      refine bm_pM_8 E hx hb htb hown hK hP hD hS (htb _ tw_776) (dt_bm_M_take 48 rfl) (fun m4 em4 H locs hP hD hS => ?_)
      replace h := bp_nM_s h em4
      refine lv_goto (tgt := 136) hx hb (dt_bm_M_take 49 rfl) (by decide) ?_
      exact hL136 _ h ls H locs (lv_sub hl [] rfl) hP hD hS
  have hL53 : ∀ (s0 : Int32) (m : bp_M), bm_M_take_L53 N a1 s0 m = some mr → ∀ (ls : Array Slot) (H : Heap) (locs : List Loc), lv_has ls 2 [] → va_P E.1 bp_cl (bm_W E m) H → va_D A (bm_W E m) → va_S A s.heap H locs → W p l e ({ frames := 10, cells := 0, slots := 0, locals := 244 }) s mt args below meth c H locs 0 0 Q (F0 mt 53 ls [.int s0, .ref (E.2.1 0)]) := by
    intro s0 m h ls H locs hl hP hD hS
    rw [bm_M_take_L53] at h
    refine bm_pM_6 E hx hb htb hown hK hP hD hS (htb _ tw_774) (dt_bm_M_take 29 rfl) (fun m1 em1 H locs hP hD hS => ?_)
    replace h := bp_nM_s h em1
    refine lv_goto (tgt := 136) hx hb (dt_bm_M_take 30 rfl) (by decide) ?_
    exact hL136 _ h ls H locs (lv_sub hl [] rfl) hP hD hS
  have hL38 : ∀ (m : bp_M), bm_M_take_L38 N a1 m = some mr → ∀ (ls : Array Slot) (H : Heap) (locs : List Loc), lv_has ls 2 [(0, .ref (E.2.1 0)), (1, .int a1)] → va_P E.1 bp_cl (bm_W E m) H → va_D A (bm_W E m) → va_S A s.heap H locs → W p l e ({ frames := 10, cells := 0, slots := 0, locals := 244 }) s mt args below meth c H locs 0 0 Q (F0 mt 38 ls []) := by
    intro m h ls H locs hl hP hD hS
    rw [bm_M_take_L38] at h
    refine lv_aload_n hx hb (dt_bm_M_take 20 rfl) rfl (lv_at hl 0 rfl) ?_
    refine lv_iload_n hx hb (dt_bm_M_take 21 rfl) rfl (lv_at hl 1 rfl) ?_
    refine lv_if_ne (tgt := 52) hx hb (dt_bm_M_take 22 rfl) (by decide) (fun hc => ?_) (fun hc => ?_)
    · replace h := (if_pos hc).symm.trans h
      refine lv_iconst (v := 0) hx hb (dt_bm_M_take 28 rfl) (by decide) ?_
      exact hL53 _ _ h ls H locs (lv_sub hl [] rfl) hP hD hS
    · replace h := (if_neg (fun hn => hn hc)).symm.trans h
      refine lv_aload_n hx hb (dt_bm_M_take 23 rfl) rfl (lv_at hl 0 rfl) ?_
      refine va_get (D := E.1) (ci := 10) (v := .int (m.1 0 6)) (C := "BlockPicturesModel") (T := bF_M) (N := 48) hx hb htb bm_in_M hown hK hP 0 (bm_gM E m) rfl 6 (by decide) (htb _ tw_774) (fun _ h9 => h9) rfl (dt_bm_M_take 24 rfl) ?_
      refine lv_iconst (v := 1) hx hb (dt_bm_M_take 25 rfl) (by decide) ?_
      refine lv_iadd hx hb (dt_bm_M_take 26 rfl) ?_
      refine lv_goto (tgt := 53) hx hb (dt_bm_M_take 27 rfl) (by decide) ?_
      exact hL53 _ _ h ls H locs (lv_sub hl [] rfl) hP hD hS
  suffices hgo : ∀ (H : Heap) (locs : List Loc), va_P E.1 bp_cl (bm_W E m) H → va_D A (bm_W E m) → va_S A s.heap H locs → W p l e ({ frames := 10, cells := 0, slots := 0, locals := 244 }) s mt args below meth c H locs 0 0 Q (F0 mt 0 ls []) from hgo _ _ hP hD hS
  clear hP hD hS
  intro H locs hP hD hS
  unfold bm_M_take at h
  refine lv_aload_n hx hb (dt_bm_M_take 0 rfl) rfl (lv_at hl 0 rfl) ?_
  refine va_get (D := E.1) (ci := 10) (v := .int (m.1 0 5)) (C := "BlockPicturesModel") (T := bF_M) (N := 48) hx hb htb bm_in_M hown hK hP 0 (bm_gM E m) rfl 5 (by decide) (htb _ tw_773) (fun _ h9 => h9) rfl (dt_bm_M_take 1 rfl) ?_
  refine lv_if_ne (tgt := 59) hx hb (dt_bm_M_take 2 rfl) (by decide) (fun hc => ?_) (fun hc => ?_)
  · replace h := (if_pos hc).symm.trans h
    refine lv_aload_n hx hb (dt_bm_M_take 31 rfl) rfl (lv_at hl 0 rfl) ?_
    refine va_get (D := E.1) (ci := 10) (v := .int (m.1 0 6)) (C := "BlockPicturesModel") (T := bF_M) (N := 48) hx hb htb bm_in_M hown hK hP 0 (bm_gM E m) rfl 6 (by decide) (htb _ tw_774) (fun _ h9 => h9) rfl (dt_bm_M_take 32 rfl) ?_
    refine lv_iconst (v := 2) hx hb (dt_bm_M_take 33 rfl) (by decide) ?_
    refine lv_icmp_ne (tgt := 80) hx hb (dt_bm_M_take 34 rfl) (by decide) (fun hc => ?_) (fun hc => ?_)
    · replace h := (if_pos hc).symm.trans h
      exact hL80 _ h ls H locs (lv_sub hl [0, 1] rfl) hP hD hS
    · replace h := (if_neg (fun hn => hn hc)).symm.trans h
      refine lv_iload_n hx hb (dt_bm_M_take 35 rfl) rfl (lv_at hl 1 rfl) ?_
      refine lv_iconst (v := 3) hx hb (dt_bm_M_take 36 rfl) (by decide) ?_
      refine lv_icmp_gt (tgt := 80) hx hb (dt_bm_M_take 37 rfl) (by decide) (fun hc => ?_) (fun hc => ?_)
      · replace h := (if_pos hc).symm.trans h
        exact hL80 _ h ls H locs (lv_sub hl [0, 1] rfl) hP hD hS
      · replace h := (if_neg hc).symm.trans h
        refine lv_aload_n hx hb (dt_bm_M_take 38 rfl) rfl (lv_at hl 0 rfl) ?_
        refine lv_iload_n hx hb (dt_bm_M_take 39 rfl) rfl (lv_at hl 1 rfl) ?_
        obtain ⟨m1, hm1, h⟩ := bp_cV_s h
        refine bm_callV E hsub hS (va_runV (As := [.int a1]) (rest := []) ⟨hx, hb, hml, hown, htb⟩ (wbm_M_close l E N a1 m H.size m1 hm1) (cwV 1 htb (bp_goodV tw_924 tw_926 tw_34 tw_79 tw_927) rfl rfl rfl ⟨rfl, hd_bm_M_close⟩ ⟨Nat.le_of_ble_eq_true rfl, Nat.le_of_ble_eq_true rfl⟩) (bm_preV E hsub hst hK hP hD hS (bm_gM E m) rfl rfl _) rfl rfl hl.1 rfl (lv_room (Nat.le_of_ble_eq_true rfl)) (dt_bm_M_take 40 rfl) ⟨Nat.zero_le _, Nat.zero_le _⟩) (fun H locs hP hD hS => ?_)
        refine lv_goto (tgt := 136) hx hb (dt_bm_M_take 41 rfl) (by decide) ?_
        exact hL136 _ h ls H locs (lv_sub hl [] rfl) hP hD hS
  · replace h := (if_neg (fun hn => hn hc)).symm.trans h
    refine lv_iload_n hx hb (dt_bm_M_take 3 rfl) rfl (lv_at hl 1 rfl) ?_
    refine lv_iconst (v := 1) hx hb (dt_bm_M_take 4 rfl) (by decide) ?_
    refine lv_icmp_ne (tgt := 38) hx hb (dt_bm_M_take 5 rfl) (by decide) (fun hc => ?_) (fun hc => ?_)
    · replace h := (if_pos hc).symm.trans h
      exact hL38 _ h ls H locs (lv_sub hl [0, 1] rfl) hP hD hS
    · replace h := (if_neg (fun hn => hn hc)).symm.trans h
      refine lv_aload_n hx hb (dt_bm_M_take 6 rfl) rfl (lv_at hl 0 rfl) ?_
      refine va_get (D := E.1) (ci := 10) (v := .int (m.1 0 6)) (C := "BlockPicturesModel") (T := bF_M) (N := 48) hx hb htb bm_in_M hown hK hP 0 (bm_gM E m) rfl 6 (by decide) (htb _ tw_774) (fun _ h9 => h9) rfl (dt_bm_M_take 7 rfl) ?_
      refine lv_iconst (v := 2) hx hb (dt_bm_M_take 8 rfl) (by decide) ?_
      refine lv_icmp_lt (tgt := 38) hx hb (dt_bm_M_take 9 rfl) (by decide) (fun hc => ?_) (fun hc => ?_)
      · replace h := (if_pos hc).symm.trans h
        exact hL38 _ h ls H locs (lv_sub hl [0, 1] rfl) hP hD hS
      · replace h := (if_neg hc).symm.trans h
        refine lv_aload_n hx hb (dt_bm_M_take 10 rfl) rfl (lv_at hl 0 rfl) ?_
        refine lv_iconst (v := 1) hx hb (dt_bm_M_take 11 rfl) (by decide) ?_
        obtain ⟨hg3, h⟩ := bp_g_s h
        refine bm_pM_5 E hx hb htb hown hK hP hD hS hg3 (htb _ tw_773) (dt_bm_M_take 12 rfl) (fun m2 em2 H locs hP hD hS => ?_)
        replace h := bp_nM_s h em2
        refine lv_aload_n hx hb (dt_bm_M_take 13 rfl) rfl (lv_at hl 0 rfl) ?_
        refine lv_iconst (v := 0) hx hb (dt_bm_M_take 14 rfl) (by decide) ?_
        refine bm_pM_4 E hx hb htb hown hK hP hD hS (htb _ tw_772) (dt_bm_M_take 15 rfl) (fun m4 em4 H locs hP hD hS => ?_)
        replace h := bp_nM_s h em4
        refine lv_aload_n hx hb (dt_bm_M_take 16 rfl) rfl (lv_at hl 0 rfl) ?_
        refine lv_iconst (v := 0) hx hb (dt_bm_M_take 17 rfl) (by decide) ?_
        refine bm_pM_6 E hx hb htb hown hK hP hD hS (htb _ tw_774) (dt_bm_M_take 18 rfl) (fun m5 em5 H locs hP hD hS => ?_)
        replace h := bp_nM_s h em5
        refine lv_goto (tgt := 136) hx hb (dt_bm_M_take 19 rfl) (by decide) ?_
        exact hL136 _ h ls H locs (lv_sub hl [] rfl) hP hD hS
set_option maxHeartbeats 4000000 in
set_option maxRecDepth 100000 in
theorem wbm_M_feed (l : Launch) (E : bm_E) (N : Nat) (a1 : Int32) (a2 : Int32) (m : bp_M) (sz : Nat) (r : Int32) (mr : bp_M)  (h : bm_M_feed N a1 a2 m = some (r, mr)) : Met l y_bm_M_feed (Cond.code y_bm_M_feed prog_13_method_9_code 4 (some .int) :: bp_tb) ({ frames := 11, cells := 0, slots := 0, locals := 265 }) (bm_Pc E m sz [.ref (E.2.1 0), .int a1, .int a2]) (bm_Qi E m sz r mr) 0 0 (va_A (bm_W E m) sz) := by
  refine Met.ofW (cc := prog_13_method_9_code) (maxL := 4) (ret := (some .int)) (by decide) rfl ?_
  intro p e s mt args below meth c s₁ B hml hv
  obtain ⟨rfl, hsz, hP, hK, hD0, hst⟩ := hv
  have hx := B.exec
  have hb := B.bytes
  have hr := B.returns
  have htb : ∀ w ∈ bp_tb, w.before _ s = true := fun w hw => atoms_spec (ws := Cond.code y_bm_M_feed prog_13_method_9_code 4 (some .int) :: bp_tb) B.pre w (List.mem_cons_of_mem _ hw)
  have hown : s.vm.findClass "BlockPicturesModel" = some mt.cls := findClass_of_methodNamed B.named
  have hlocks := B.notSynchronized
  subst hsz
  have hD := hD0.self (sz := s.heap.size)
  generalize hAe : va_A (bm_W E m) s.heap.size = A at hD hst ⊢
  have hsub : ∀ (u : bp_M) (z q : Nat), s.heap.size ≤ z → va_A (bm_W E u) z q → A q := bm_sub hAe
  have hS : va_S A s.heap s.heap [] := va_S.rf
  have hl := lv_entry ([.ref (E.2.1 0), .int a1, .int a2]) (n := 4) (Nat.le_of_ble_eq_true rfl)
  rw [lg_entry_eq]
  generalize (lg_sl ([.ref (E.2.1 0), .int a1, .int a2]) ++ List.replicate (4 - (lg_sl ([.ref (E.2.1 0), .int a1, .int a2])).length) Slot.unset).toArray = ls at hl ⊢
  have hl : lv_has ls 4 [(0, .ref (E.2.1 0)), (1, .int a1), (2, .int a2)] := hl
  refine bm_keyI (R := ({ frames := 11, cells := 0, slots := 0, locals := 265 })) E hx hb hr hlocks hK hAe (fun Q hret => ?_)
  clear B hD0 hlocks hr
  generalize ([.ref (E.2.1 0), .int a1, .int a2] : List Value).toArray = args at htb hret ⊢
  clear hAe
  have hL51 : ∀ (m : bp_M), bm_M_feed_L51 N a1 a2 m = some (r, mr) → ∀ (ls : Array Slot) (H : Heap) (locs : List Loc), lv_has ls 4 [(0, .ref (E.2.1 0))] → va_P E.1 bp_cl (bm_W E m) H → va_D A (bm_W E m) → va_S A s.heap H locs → W p l e ({ frames := 11, cells := 0, slots := 0, locals := 265 }) s mt args below meth c H locs 0 0 Q (F0 mt 51 ls []) := by
    intro m h ls H locs hl hP hD hS
    rw [bm_M_feed_L51] at h
    refine lv_aload_n hx hb (dt_bm_M_feed 30 rfl) rfl (lv_at hl 0 rfl) ?_
    refine va_get (D := E.1) (ci := 10) (v := .int (m.1 0 7)) (C := "BlockPicturesModel") (T := bF_M) (N := 48) hx hb htb bm_in_M hown hK hP 0 (bm_gM E m) rfl 7 (by decide) (htb _ tw_775) (fun _ h9 => h9) rfl (dt_bm_M_feed 31 rfl) ?_
    exact hret _ _ _ _ _ _ h hP hD hS (dt_bm_M_feed 32 rfl)
  have hL20 : ∀ (n20 : Nat) (x3 : Int32) (m : bp_M), bm_M_feed_L20 N a1 a2 n20 x3 m = some (r, mr) → ∀ (ls : Array Slot) (H : Heap) (locs : List Loc), lv_has ls 4 [(0, .ref (E.2.1 0)), (1, .int a1), (3, .int x3)] → va_P E.1 bp_cl (bm_W E m) H → va_D A (bm_W E m) → va_S A s.heap H locs → W p l e ({ frames := 11, cells := 0, slots := 0, locals := 265 }) s mt args below meth c H locs 0 0 Q (F0 mt 20 ls []) := by
    intro n20
    induction n20 with
    | zero =>
      intro x3 m h ls H locs hl hP hD hS
      rw [bm_M_feed_L20] at h
      cases h
    | succ n20 ih20 =>
      have hL45 : ∀ (x3 : Int32) (m : bp_M), bm_M_feed_L45 (bm_M_feed_L20 N a1 a2 n20) N a1 a2 x3 m = some (r, mr) → ∀ (ls : Array Slot) (H : Heap) (locs : List Loc), lv_has ls 4 [(0, .ref (E.2.1 0)), (1, .int a1), (3, .int x3)] → va_P E.1 bp_cl (bm_W E m) H → va_D A (bm_W E m) → va_S A s.heap H locs → W p l e ({ frames := 11, cells := 0, slots := 0, locals := 265 }) s mt args below meth c H locs 0 0 Q (F0 mt 45 ls []) := by
        intro x3 m h ls H locs hl hP hD hS
        rw [bm_M_feed_L45] at h
        obtain ⟨y1, ey1⟩ : ∃ z : Int32, z = x3 + (-1) := ⟨_, rfl⟩
        replace h := bp_nI_s h ey1
        refine lv_iinc (k := 2) (v := y1) hx hb (dt_bm_M_feed 28 rfl) hl rfl (by rw [ey1]; rfl) (Nat.le_of_ble_eq_true rfl) rfl (fun ls hl => ?_)
        have hl : lv_has ls 4 [(3, .int y1), (0, .ref (E.2.1 0)), (1, .int a1)] := hl
        refine lv_goto (tgt := 20) hx hb (dt_bm_M_feed 29 rfl) (by decide) ?_
        exact ih20 _ _ h ls H locs (lv_sub hl [1, 2, 0] rfl) hP hD hS
      intro x3 m h ls H locs hl hP hD hS
      rw [bm_M_feed_L20] at h
      refine lv_iload_n hx hb (dt_bm_M_feed 14 rfl) rfl (lv_at hl 2 rfl) ?_
      refine lv_if_lt (tgt := 51) hx hb (dt_bm_M_feed 15 rfl) (by decide) (fun hc => ?_) (fun hc => ?_)
      · replace h := (if_pos hc).symm.trans h
        exact hL51 _ h ls H locs (lv_sub hl [0] rfl) hP hD hS
      · replace h := (if_neg hc).symm.trans h
        refine lv_aload_n hx hb (dt_bm_M_feed 16 rfl) rfl (lv_at hl 0 rfl) ?_
        refine va_get (D := E.1) (ci := 10) (v := .int (m.1 0 8)) (C := "BlockPicturesModel") (T := bF_M) (N := 48) hx hb htb bm_in_M hown hK hP 0 (bm_gM E m) rfl 8 (by decide) (htb _ tw_776) (fun _ h9 => h9) rfl (dt_bm_M_feed 17 rfl) ?_
        refine lv_if_ne (tgt := 45) hx hb (dt_bm_M_feed 18 rfl) (by decide) (fun hc => ?_) (fun hc => ?_)
        · replace h := (if_pos hc).symm.trans h
          exact hL45 _ _ h ls H locs (lv_sub hl [0, 1, 2] rfl) hP hD hS
        · replace h := (if_neg (fun hn => hn hc)).symm.trans h
          refine lv_aload_n hx hb (dt_bm_M_feed 19 rfl) rfl (lv_at hl 0 rfl) ?_
          refine lv_iload_n hx hb (dt_bm_M_feed 20 rfl) rfl (lv_at hl 1 rfl) ?_
          refine lv_bipush (v := 8) hx hb (dt_bm_M_feed 21 rfl) (by decide) ?_
          refine lv_iload_n hx hb (dt_bm_M_feed 22 rfl) rfl (lv_at hl 2 rfl) ?_
          refine lv_imul hx hb (dt_bm_M_feed 23 rfl) ?_
          refine lv_ishr hx hb (dt_bm_M_feed 24 rfl) ?_
          refine lv_sipush (v := 255) hx hb (dt_bm_M_feed 25 rfl) (by decide) ?_
          refine lv_iand hx hb (dt_bm_M_feed 26 rfl) ?_
          obtain ⟨m1, hm1, h⟩ := bp_cV_s h
          refine bm_callV E hsub hS (va_runV (As := [.int ((a1 >>> ((8 * x3 : Int32) &&& 31 : Int32) : Int32) &&& 255 : Int32)]) (rest := []) ⟨hx, hb, hml, hown, htb⟩ (wbm_M_take l E N ((a1 >>> ((8 * x3 : Int32) &&& 31 : Int32) : Int32) &&& 255 : Int32) m H.size m1 hm1) (cwV 1 htb (bp_goodV tw_920 tw_922 tw_33 tw_79 tw_923) rfl rfl rfl ⟨rfl, hd_bm_M_take⟩ ⟨Nat.le_of_ble_eq_true rfl, Nat.le_of_ble_eq_true rfl⟩) (bm_preV E hsub hst hK hP hD hS (bm_gM E m) rfl rfl _) rfl rfl hl.1 rfl (lv_room (Nat.le_of_ble_eq_true rfl)) (dt_bm_M_feed 27 rfl) ⟨Nat.zero_le _, Nat.zero_le _⟩) (fun H locs hP hD hS => ?_)
          exact hL45 _ _ h ls H locs (lv_sub hl [0, 1, 2] rfl) hP hD hS
  suffices hgo : ∀ (H : Heap) (locs : List Loc), va_P E.1 bp_cl (bm_W E m) H → va_D A (bm_W E m) → va_S A s.heap H locs → W p l e ({ frames := 11, cells := 0, slots := 0, locals := 265 }) s mt args below meth c H locs 0 0 Q (F0 mt 0 ls []) from hgo _ _ hP hD hS
  clear hP hD hS
  intro H locs hP hD hS
  unfold bm_M_feed at h
  refine lv_aload_n hx hb (dt_bm_M_feed 0 rfl) rfl (lv_at hl 0 rfl) ?_
  refine lv_iconst (v := 0) hx hb (dt_bm_M_feed 1 rfl) (by decide) ?_
  refine bm_pM_7 E hx hb htb hown hK hP hD hS (htb _ tw_775) (dt_bm_M_feed 2 rfl) (fun m1 em1 H locs hP hD hS => ?_)
  replace h := bp_nM_s h em1
  refine lv_iload_n hx hb (dt_bm_M_feed 3 rfl) rfl (lv_at hl 2 rfl) ?_
  refine lv_iconst (v := 1) hx hb (dt_bm_M_feed 4 rfl) (by decide) ?_
  refine lv_iconst (v := 4) hx hb (dt_bm_M_feed 5 rfl) (by decide) ?_
  obtain ⟨z3, m2, hm2, h⟩ := bp_cI_s h
  refine bm_callI E hsub hS (va_runS (As := [.int a2, .int 1, .int 4]) (rest := []) ⟨hx, hb, hml, hown, htb⟩ (wbm_M_within l E N a2 1 4 m1 H.size z3 m2 hm2) (va_cwS 3 htb (bp_goodW tw_917 tw_918 tw_79 tw_919) rfl rfl rfl hd_bm_M_within ⟨Nat.le_of_ble_eq_true rfl, Nat.le_of_ble_eq_true rfl⟩) (bm_preS E hsub hst hK hP hD hS _) rfl rfl hl.1 rfl (lv_room (Nat.le_of_ble_eq_true rfl)) (dt_bm_M_feed 6 rfl) ⟨Nat.zero_le _, Nat.zero_le _⟩) (fun H locs hP hD hS => ?_)
  refine lv_if_ne (tgt := 16) hx hb (dt_bm_M_feed 7 rfl) (by decide) (fun hc => ?_) (fun hc => ?_)
  · replace h := (if_pos hc).symm.trans h
    refine lv_iload_n hx hb (dt_bm_M_feed 10 rfl) rfl (lv_at hl 2 rfl) ?_
    refine lv_iconst (v := 1) hx hb (dt_bm_M_feed 11 rfl) (by decide) ?_
    refine lv_isub hx hb (dt_bm_M_feed 12 rfl) ?_
    refine lv_topi (fun y4 ey4 => ?_)
    replace h := bp_nI_s h ey4
    refine lv_istore_n hx hb (dt_bm_M_feed 13 rfl) rfl hl (Nat.le_of_ble_eq_true rfl) rfl (fun ls hl => ?_)
    have hl : lv_has ls 4 [(3, .int y4), (0, .ref (E.2.1 0)), (1, .int a1), (2, .int a2)] := hl
    exact hL20 _ _ _ h ls H locs (lv_sub hl [1, 2, 0] rfl) hP hD hS
  · replace h := (if_neg (fun hn => hn hc)).symm.trans h
    refine lv_iconst (v := 0) hx hb (dt_bm_M_feed 8 rfl) (by decide) ?_
    exact hret _ _ _ _ _ _ h hP hD hS (dt_bm_M_feed 9 rfl)
set_option maxHeartbeats 4000000 in
set_option maxRecDepth 100000 in
theorem wbm_M_pass (l : Launch) (E : bm_E) (N : Nat)  (m : bp_M) (sz : Nat) (r : Int32) (mr : bp_M)  (h : bm_M_pass N m = some (r, mr)) : Met l y_bm_M_pass (Cond.code y_bm_M_pass prog_13_method_10_code 2 (some .int) :: bp_tb) ({ frames := 11, cells := 0, slots := 0, locals := 265 }) (bm_Pc E m sz [.ref (E.2.1 0)]) (bm_Qi E m sz r mr) 0 0 (va_A (bm_W E m) sz) := by
  refine Met.ofW (cc := prog_13_method_10_code) (maxL := 2) (ret := (some .int)) (by decide) rfl ?_
  intro p e s mt args below meth c s₁ B hml hv
  obtain ⟨rfl, hsz, hP, hK, hD0, hst⟩ := hv
  have hx := B.exec
  have hb := B.bytes
  have hr := B.returns
  have htb : ∀ w ∈ bp_tb, w.before _ s = true := fun w hw => atoms_spec (ws := Cond.code y_bm_M_pass prog_13_method_10_code 2 (some .int) :: bp_tb) B.pre w (List.mem_cons_of_mem _ hw)
  have hown : s.vm.findClass "BlockPicturesModel" = some mt.cls := findClass_of_methodNamed B.named
  have hlocks := B.notSynchronized
  subst hsz
  have hD := hD0.self (sz := s.heap.size)
  generalize hAe : va_A (bm_W E m) s.heap.size = A at hD hst ⊢
  have hsub : ∀ (u : bp_M) (z q : Nat), s.heap.size ≤ z → va_A (bm_W E u) z q → A q := bm_sub hAe
  have hS : va_S A s.heap s.heap [] := va_S.rf
  have hl := lv_entry ([.ref (E.2.1 0)]) (n := 2) (Nat.le_of_ble_eq_true rfl)
  rw [lg_entry_eq]
  generalize (lg_sl ([.ref (E.2.1 0)]) ++ List.replicate (2 - (lg_sl ([.ref (E.2.1 0)])).length) Slot.unset).toArray = ls at hl ⊢
  have hl : lv_has ls 2 [(0, .ref (E.2.1 0))] := hl
  refine bm_keyI (R := ({ frames := 11, cells := 0, slots := 0, locals := 265 })) E hx hb hr hlocks hK hAe (fun Q hret => ?_)
  clear B hD0 hlocks hr
  generalize ([.ref (E.2.1 0)] : List Value).toArray = args at htb hret ⊢
  clear hAe
  have hL38 : ∀ (m : bp_M), bm_M_pass_L38 N m = some (r, mr) → ∀ (ls : Array Slot) (H : Heap) (locs : List Loc), lv_has ls 2 [(0, .ref (E.2.1 0))] → va_P E.1 bp_cl (bm_W E m) H → va_D A (bm_W E m) → va_S A s.heap H locs → W p l e ({ frames := 11, cells := 0, slots := 0, locals := 265 }) s mt args below meth c H locs 0 0 Q (F0 mt 38 ls []) := by
    intro m h ls H locs hl hP hD hS
    rw [bm_M_pass_L38] at h
    refine lv_aload_n hx hb (dt_bm_M_pass 20 rfl) rfl (lv_at hl 0 rfl) ?_
    refine va_get (D := E.1) (ci := 10) (v := .int (m.1 0 7)) (C := "BlockPicturesModel") (T := bF_M) (N := 48) hx hb htb bm_in_M hown hK hP 0 (bm_gM E m) rfl 7 (by decide) (htb _ tw_775) (fun _ h9 => h9) rfl (dt_bm_M_pass 21 rfl) ?_
    exact hret _ _ _ _ _ _ h hP hD hS (dt_bm_M_pass 22 rfl)
  have hL7 : ∀ (n7 : Nat) (x1 : Int32) (m : bp_M), bm_M_pass_L7 N n7 x1 m = some (r, mr) → ∀ (ls : Array Slot) (H : Heap) (locs : List Loc), lv_has ls 2 [(0, .ref (E.2.1 0)), (1, .int x1)] → va_P E.1 bp_cl (bm_W E m) H → va_D A (bm_W E m) → va_S A s.heap H locs → W p l e ({ frames := 11, cells := 0, slots := 0, locals := 265 }) s mt args below meth c H locs 0 0 Q (F0 mt 7 ls []) := by
    intro n7
    induction n7 with
    | zero =>
      intro x1 m h ls H locs hl hP hD hS
      rw [bm_M_pass_L7] at h
      cases h
    | succ n7 ih7 =>
      have hL32 : ∀ (x1 : Int32) (m : bp_M), bm_M_pass_L32 (bm_M_pass_L7 N n7) N x1 m = some (r, mr) → ∀ (ls : Array Slot) (H : Heap) (locs : List Loc), lv_has ls 2 [(0, .ref (E.2.1 0)), (1, .int x1)] → va_P E.1 bp_cl (bm_W E m) H → va_D A (bm_W E m) → va_S A s.heap H locs → W p l e ({ frames := 11, cells := 0, slots := 0, locals := 265 }) s mt args below meth c H locs 0 0 Q (F0 mt 32 ls []) := by
        intro x1 m h ls H locs hl hP hD hS
        rw [bm_M_pass_L32] at h
        obtain ⟨y1, ey1⟩ : ∃ z : Int32, z = x1 + 1 := ⟨_, rfl⟩
        replace h := bp_nI_s h ey1
        refine lv_iinc (k := 1) (v := y1) hx hb (dt_bm_M_pass 18 rfl) hl rfl (by rw [ey1]; rfl) (Nat.le_of_ble_eq_true rfl) rfl (fun ls hl => ?_)
        have hl : lv_has ls 2 [(1, .int y1), (0, .ref (E.2.1 0))] := hl
        refine lv_goto (tgt := 7) hx hb (dt_bm_M_pass 19 rfl) (by decide) ?_
        exact ih7 _ _ h ls H locs (lv_sub hl [1, 0] rfl) hP hD hS
      intro x1 m h ls H locs hl hP hD hS
      rw [bm_M_pass_L7] at h
      refine lv_iload_n hx hb (dt_bm_M_pass 5 rfl) rfl (lv_at hl 1 rfl) ?_
      refine lv_aload_n hx hb (dt_bm_M_pass 6 rfl) rfl (lv_at hl 0 rfl) ?_
      refine va_get (D := E.1) (ci := 10) (v := .int (m.1 0 44)) (C := "BlockPicturesModel") (T := bF_M) (N := 48) hx hb htb bm_in_M hown hK hP 0 (bm_gM E m) rfl 44 (by decide) (htb _ tw_812) (fun _ h9 => h9) rfl (dt_bm_M_pass 7 rfl) ?_
      refine lv_icmp_ge (tgt := 38) hx hb (dt_bm_M_pass 8 rfl) (by decide) (fun hc => ?_) (fun hc => ?_)
      · replace h := (if_pos hc).symm.trans h
        exact hL38 _ h ls H locs (lv_sub hl [0] rfl) hP hD hS
      · replace h := (if_neg hc).symm.trans h
        refine lv_aload_n hx hb (dt_bm_M_pass 9 rfl) rfl (lv_at hl 0 rfl) ?_
        refine va_get (D := E.1) (ci := 10) (v := .int (m.1 0 8)) (C := "BlockPicturesModel") (T := bF_M) (N := 48) hx hb htb bm_in_M hown hK hP 0 (bm_gM E m) rfl 8 (by decide) (htb _ tw_776) (fun _ h9 => h9) rfl (dt_bm_M_pass 10 rfl) ?_
        refine lv_if_ne (tgt := 32) hx hb (dt_bm_M_pass 11 rfl) (by decide) (fun hc => ?_) (fun hc => ?_)
        · replace h := (if_pos hc).symm.trans h
          exact hL32 _ _ h ls H locs (lv_sub hl [0, 1] rfl) hP hD hS
        · replace h := (if_neg (fun hn => hn hc)).symm.trans h
          refine lv_aload_n hx hb (dt_bm_M_pass 12 rfl) rfl (lv_at hl 0 rfl) ?_
          refine lv_aload_n hx hb (dt_bm_M_pass 13 rfl) rfl (lv_at hl 0 rfl) ?_
          refine va_get (D := E.1) (ci := 10) (v := .ref (E.2.1 20)) (C := "BlockPicturesModel") (T := bF_M) (N := 48) hx hb htb bm_in_M hown hK hP 0 (bm_gM E m) rfl 43 (by decide) (htb _ tw_811) (fun _ h9 => h9) rfl (dt_bm_M_pass 14 rfl) ?_
          refine lv_iload_n hx hb (dt_bm_M_pass 15 rfl) rfl (lv_at hl 1 rfl) ?_
          obtain ⟨hg1, h⟩ := bp_gi_s h
          refine bm_lI E hx hb hK hP (bm_ga20 E) hg1 (dt_bm_M_pass 16 rfl) ?_
          obtain ⟨m2, hm2, h⟩ := bp_cV_s h
          refine bm_callV E hsub hS (va_runV (As := [.int (m.1 20 x1.toNatClampNeg)]) (rest := []) ⟨hx, hb, hml, hown, htb⟩ (wbm_M_take l E N (m.1 20 x1.toNatClampNeg) m H.size m2 hm2) (cwV 1 htb (bp_goodV tw_920 tw_922 tw_33 tw_79 tw_923) rfl rfl rfl ⟨rfl, hd_bm_M_take⟩ ⟨Nat.le_of_ble_eq_true rfl, Nat.le_of_ble_eq_true rfl⟩) (bm_preV E hsub hst hK hP hD hS (bm_gM E m) rfl rfl _) rfl rfl hl.1 rfl (lv_room (Nat.le_of_ble_eq_true rfl)) (dt_bm_M_pass 17 rfl) ⟨Nat.zero_le _, Nat.zero_le _⟩) (fun H locs hP hD hS => ?_)
          exact hL32 _ _ h ls H locs (lv_sub hl [0, 1] rfl) hP hD hS
  suffices hgo : ∀ (H : Heap) (locs : List Loc), va_P E.1 bp_cl (bm_W E m) H → va_D A (bm_W E m) → va_S A s.heap H locs → W p l e ({ frames := 11, cells := 0, slots := 0, locals := 265 }) s mt args below meth c H locs 0 0 Q (F0 mt 0 ls []) from hgo _ _ hP hD hS
  clear hP hD hS
  intro H locs hP hD hS
  unfold bm_M_pass at h
  refine lv_aload_n hx hb (dt_bm_M_pass 0 rfl) rfl (lv_at hl 0 rfl) ?_
  refine lv_iconst (v := 0) hx hb (dt_bm_M_pass 1 rfl) (by decide) ?_
  refine bm_pM_7 E hx hb htb hown hK hP hD hS (htb _ tw_775) (dt_bm_M_pass 2 rfl) (fun m1 em1 H locs hP hD hS => ?_)
  replace h := bp_nM_s h em1
  refine lv_iconst (v := 0) hx hb (dt_bm_M_pass 3 rfl) (by decide) ?_
  refine lv_istore_n hx hb (dt_bm_M_pass 4 rfl) rfl hl (Nat.le_of_ble_eq_true rfl) rfl (fun ls hl => ?_)
  have hl : lv_has ls 2 [(1, .int 0), (0, .ref (E.2.1 0))] := hl
  exact hL7 _ _ _ h ls H locs (lv_sub hl [1, 0] rfl) hP hD hS
set_option maxHeartbeats 4000000 in
set_option maxRecDepth 100000 in
theorem wbm_M_end (l : Launch) (E : bm_E) (N : Nat)  (m : bp_M) (sz : Nat) (r : Int32) (mr : bp_M)  (h : bm_M_end N m = some (r, mr)) : Met l y_bm_M_end (Cond.code y_bm_M_end prog_13_method_43_code 2 (some .int) :: bp_tb) ({ frames := 9, cells := 0, slots := 0, locals := 223 }) (bm_Pc E m sz [.ref (E.2.1 0)]) (bm_Qi E m sz r mr) 0 0 (va_A (bm_W E m) sz) := by
  refine Met.ofW (cc := prog_13_method_43_code) (maxL := 2) (ret := (some .int)) (by decide) rfl ?_
  intro p e s mt args below meth c s₁ B hml hv
  obtain ⟨rfl, hsz, hP, hK, hD0, hst⟩ := hv
  have hx := B.exec
  have hb := B.bytes
  have hr := B.returns
  have htb : ∀ w ∈ bp_tb, w.before _ s = true := fun w hw => atoms_spec (ws := Cond.code y_bm_M_end prog_13_method_43_code 2 (some .int) :: bp_tb) B.pre w (List.mem_cons_of_mem _ hw)
  have hown : s.vm.findClass "BlockPicturesModel" = some mt.cls := findClass_of_methodNamed B.named
  have hlocks := B.notSynchronized
  subst hsz
  have hD := hD0.self (sz := s.heap.size)
  generalize hAe : va_A (bm_W E m) s.heap.size = A at hD hst ⊢
  have hsub : ∀ (u : bp_M) (z q : Nat), s.heap.size ≤ z → va_A (bm_W E u) z q → A q := bm_sub hAe
  have hS : va_S A s.heap s.heap [] := va_S.rf
  have hl := lv_entry ([.ref (E.2.1 0)]) (n := 2) (Nat.le_of_ble_eq_true rfl)
  rw [lg_entry_eq]
  generalize (lg_sl ([.ref (E.2.1 0)]) ++ List.replicate (2 - (lg_sl ([.ref (E.2.1 0)])).length) Slot.unset).toArray = ls at hl ⊢
  have hl : lv_has ls 2 [(0, .ref (E.2.1 0))] := hl
  refine bm_keyI (R := ({ frames := 9, cells := 0, slots := 0, locals := 223 })) E hx hb hr hlocks hK hAe (fun Q hret => ?_)
  clear B hD0 hlocks hr
  generalize ([.ref (E.2.1 0)] : List Value).toArray = args at htb hret ⊢
  clear hAe
  have hL61 : ∀ (x1 : Int32) (m : bp_M), bm_M_end_L61 N x1 m = some (r, mr) → ∀ (ls : Array Slot) (H : Heap) (locs : List Loc), lv_has ls 2 [(0, .ref (E.2.1 0)), (1, .int x1)] → va_P E.1 bp_cl (bm_W E m) H → va_D A (bm_W E m) → va_S A s.heap H locs → W p l e ({ frames := 9, cells := 0, slots := 0, locals := 223 }) s mt args below meth c H locs 0 0 Q (F0 mt 61 ls []) := by
    intro x1 m h ls H locs hl hP hD hS
    rw [bm_M_end_L61] at h
    refine lv_aload_n hx hb (dt_bm_M_end 33 rfl) rfl (lv_at hl 0 rfl) ?_
    refine va_get (D := E.1) (ci := 10) (v := .int (m.1 0 39)) (C := "BlockPicturesModel") (T := bF_M) (N := 48) hx hb htb bm_in_M hown hK hP 0 (bm_gM E m) rfl 39 (by decide) (htb _ tw_807) (fun _ h9 => h9) rfl (dt_bm_M_end 34 rfl) ?_
    refine lv_iload_n hx hb (dt_bm_M_end 35 rfl) rfl (lv_at hl 1 rfl) ?_
    refine lv_isub hx hb (dt_bm_M_end 36 rfl) ?_
    exact hret _ _ _ _ _ _ h hP hD hS (dt_bm_M_end 37 rfl)
  have hL25 : ∀ (x1 : Int32) (m : bp_M), bm_M_end_L25 N x1 m = some (r, mr) → ∀ (ls : Array Slot) (H : Heap) (locs : List Loc), lv_has ls 2 [(0, .ref (E.2.1 0)), (1, .int x1)] → va_P E.1 bp_cl (bm_W E m) H → va_D A (bm_W E m) → va_S A s.heap H locs → W p l e ({ frames := 9, cells := 0, slots := 0, locals := 223 }) s mt args below meth c H locs 0 0 Q (F0 mt 25 ls []) := by
    intro x1 m h ls H locs hl hP hD hS
    rw [bm_M_end_L25] at h
    refine lv_aload_n hx hb (dt_bm_M_end 13 rfl) rfl (lv_at hl 0 rfl) ?_
    refine va_get (D := E.1) (ci := 10) (v := .int (m.1 0 8)) (C := "BlockPicturesModel") (T := bF_M) (N := 48) hx hb htb bm_in_M hown hK hP 0 (bm_gM E m) rfl 8 (by decide) (htb _ tw_776) (fun _ h9 => h9) rfl (dt_bm_M_end 14 rfl) ?_
    refine lv_if_ne (tgt := 61) hx hb (dt_bm_M_end 15 rfl) (by decide) (fun hc => ?_) (fun hc => ?_)
    · replace h := (if_pos hc).symm.trans h
      exact hL61 _ _ h ls H locs (lv_sub hl [0, 1] rfl) hP hD hS
    · replace h := (if_neg (fun hn => hn hc)).symm.trans h
      refine lv_aload_n hx hb (dt_bm_M_end 16 rfl) rfl (lv_at hl 0 rfl) ?_
      obtain ⟨m1, hm1, h⟩ := bp_cV_s h
      refine bm_callV E hsub hS (va_runV (As := []) (rest := []) ⟨hx, hb, hml, hown, htb⟩ (wbm_M_showAll l E N  m H.size m1 hm1) (cwV 0 htb (bp_goodV tw_1043 tw_1045 tw_60 tw_79 tw_1046) rfl rfl rfl ⟨rfl, hd_bm_M_showAll⟩ ⟨Nat.le_of_ble_eq_true rfl, Nat.le_of_ble_eq_true rfl⟩) (bm_preV E hsub hst hK hP hD hS (bm_gM E m) rfl rfl _) rfl rfl hl.1 rfl (lv_room (Nat.le_of_ble_eq_true rfl)) (dt_bm_M_end 17 rfl) ⟨Nat.zero_le _, Nat.zero_le _⟩) (fun H locs hP hD hS => ?_)
      refine lv_aload_n hx hb (dt_bm_M_end 18 rfl) rfl (lv_at hl 0 rfl) ?_
      refine lv_iconst (v := 0) hx hb (dt_bm_M_end 19 rfl) (by decide) ?_
      obtain ⟨hg3, h⟩ := bp_g_s h
      refine bm_pM_13 E hx hb htb hown hK hP hD hS hg3 (htb _ tw_781) (dt_bm_M_end 20 rfl) (fun m2 em2 H locs hP hD hS => ?_)
      replace h := bp_nM_s h em2
      refine lv_aload_n hx hb (dt_bm_M_end 21 rfl) rfl (lv_at hl 0 rfl) ?_
      refine lv_iconst (v := 0) hx hb (dt_bm_M_end 22 rfl) (by decide) ?_
      obtain ⟨hg5, h⟩ := bp_g_s h
      refine bm_pM_16 E hx hb htb hown hK hP hD hS hg5 (htb _ tw_784) (dt_bm_M_end 23 rfl) (fun m4 em4 H locs hP hD hS => ?_)
      replace h := bp_nM_s h em4
      refine lv_aload_n hx hb (dt_bm_M_end 24 rfl) rfl (lv_at hl 0 rfl) ?_
      refine lv_iconst (v := 0) hx hb (dt_bm_M_end 25 rfl) (by decide) ?_
      obtain ⟨hg7, h⟩ := bp_g_s h
      refine bm_pM_5 E hx hb htb hown hK hP hD hS hg7 (htb _ tw_773) (dt_bm_M_end 26 rfl) (fun m6 em6 H locs hP hD hS => ?_)
      replace h := bp_nM_s h em6
      refine lv_aload_n hx hb (dt_bm_M_end 27 rfl) rfl (lv_at hl 0 rfl) ?_
      refine lv_iconst (v := 0) hx hb (dt_bm_M_end 28 rfl) (by decide) ?_
      refine bm_pM_4 E hx hb htb hown hK hP hD hS (htb _ tw_772) (dt_bm_M_end 29 rfl) (fun m8 em8 H locs hP hD hS => ?_)
      replace h := bp_nM_s h em8
      refine lv_aload_n hx hb (dt_bm_M_end 30 rfl) rfl (lv_at hl 0 rfl) ?_
      refine lv_iconst (v := 0) hx hb (dt_bm_M_end 31 rfl) (by decide) ?_
      refine bm_pM_6 E hx hb htb hown hK hP hD hS (htb _ tw_774) (dt_bm_M_end 32 rfl) (fun m9 em9 H locs hP hD hS => ?_)
      replace h := bp_nM_s h em9
      exact hL61 _ _ h ls H locs (lv_sub hl [0, 1] rfl) hP hD hS
  suffices hgo : ∀ (H : Heap) (locs : List Loc), va_P E.1 bp_cl (bm_W E m) H → va_D A (bm_W E m) → va_S A s.heap H locs → W p l e ({ frames := 9, cells := 0, slots := 0, locals := 223 }) s mt args below meth c H locs 0 0 Q (F0 mt 0 ls []) from hgo _ _ hP hD hS
  clear hP hD hS
  intro H locs hP hD hS
  unfold bm_M_end at h
  refine lv_aload_n hx hb (dt_bm_M_end 0 rfl) rfl (lv_at hl 0 rfl) ?_
  refine va_get (D := E.1) (ci := 10) (v := .int (m.1 0 8)) (C := "BlockPicturesModel") (T := bF_M) (N := 48) hx hb htb bm_in_M hown hK hP 0 (bm_gM E m) rfl 8 (by decide) (htb _ tw_776) (fun _ h9 => h9) rfl (dt_bm_M_end 1 rfl) ?_
  refine lv_if_eq (tgt := 9) hx hb (dt_bm_M_end 2 rfl) (by decide) (fun hc => ?_) (fun hc => ?_)
  · replace h := (if_pos hc).symm.trans h
    refine lv_aload_n hx hb (dt_bm_M_end 5 rfl) rfl (lv_at hl 0 rfl) ?_
    refine va_get (D := E.1) (ci := 10) (v := .int (m.1 0 39)) (C := "BlockPicturesModel") (T := bF_M) (N := 48) hx hb htb bm_in_M hown hK hP 0 (bm_gM E m) rfl 39 (by decide) (htb _ tw_807) (fun _ h9 => h9) rfl (dt_bm_M_end 6 rfl) ?_
    refine lv_topi (fun y1 ey1 => ?_)
    replace h := bp_nI_s h ey1
    refine lv_istore_n hx hb (dt_bm_M_end 7 rfl) rfl hl (Nat.le_of_ble_eq_true rfl) rfl (fun ls hl => ?_)
    have hl : lv_has ls 2 [(1, .int y1), (0, .ref (E.2.1 0))] := hl
    refine lv_aload_n hx hb (dt_bm_M_end 8 rfl) rfl (lv_at hl 1 rfl) ?_
    refine va_get (D := E.1) (ci := 10) (v := .int (m.1 0 5)) (C := "BlockPicturesModel") (T := bF_M) (N := 48) hx hb htb bm_in_M hown hK hP 0 (bm_gM E m) rfl 5 (by decide) (htb _ tw_773) (fun _ h9 => h9) rfl (dt_bm_M_end 9 rfl) ?_
    refine lv_if_eq (tgt := 25) hx hb (dt_bm_M_end 10 rfl) (by decide) (fun hc => ?_) (fun hc => ?_)
    · replace h := (if_pos hc).symm.trans h
      exact hL25 _ _ h ls H locs (lv_sub hl [1, 0] rfl) hP hD hS
    · replace h := (if_neg hc).symm.trans h
      refine lv_aload_n hx hb (dt_bm_M_end 11 rfl) rfl (lv_at hl 1 rfl) ?_
      obtain ⟨m2, hm2, h⟩ := bp_cV_s h
      refine bm_callV E hsub hS (va_runV (As := []) (rest := []) ⟨hx, hb, hml, hown, htb⟩ (wbm_M_finish l E N  m H.size m2 hm2) (cwV 0 htb (bp_goodV tw_928 tw_930 tw_35 tw_79 tw_931) rfl rfl rfl ⟨rfl, hd_bm_M_finish⟩ ⟨Nat.le_of_ble_eq_true rfl, Nat.le_of_ble_eq_true rfl⟩) (bm_preV E hsub hst hK hP hD hS (bm_gM E m) rfl rfl _) rfl rfl hl.1 rfl (lv_room (Nat.le_of_ble_eq_true rfl)) (dt_bm_M_end 12 rfl) ⟨Nat.zero_le _, Nat.zero_le _⟩) (fun H locs hP hD hS => ?_)
      exact hL25 _ _ h ls H locs (lv_sub hl [1, 0] rfl) hP hD hS
  · replace h := (if_neg hc).symm.trans h
    refine lv_iconst (v := 0) hx hb (dt_bm_M_end 3 rfl) (by decide) ?_
    exact hret _ _ _ _ _ _ h hP hD hS (dt_bm_M_end 4 rfl)
set_option maxHeartbeats 4000000 in
set_option maxRecDepth 100000 in
theorem wbm_M_reset (l : Launch) (E : bm_E) (N : Nat)  (m : bp_M) (sz : Nat) (mr : bp_M)  (h : bm_M_reset N m = some mr) : Met l y_bm_M_reset (Cond.code y_bm_M_reset prog_13_method_44_code 1 none :: bp_tb) ({ frames := 1, cells := 0, slots := 0, locals := 21 }) (bm_Pc E m sz [.ref (E.2.1 0)]) (bm_Qv E m sz mr) 0 0 (va_A (bm_W E m) sz) := by
  refine Met.ofW (cc := prog_13_method_44_code) (maxL := 1) (ret := none) (by decide) rfl ?_
  intro p e s mt args below meth c s₁ B hml hv
  obtain ⟨rfl, hsz, hP, hK, hD0, hst⟩ := hv
  have hx := B.exec
  have hb := B.bytes
  have hr := B.returns
  have htb : ∀ w ∈ bp_tb, w.before _ s = true := fun w hw => atoms_spec (ws := Cond.code y_bm_M_reset prog_13_method_44_code 1 none :: bp_tb) B.pre w (List.mem_cons_of_mem _ hw)
  have hown : s.vm.findClass "BlockPicturesModel" = some mt.cls := findClass_of_methodNamed B.named
  have hlocks := B.notSynchronized
  subst hsz
  have hD := hD0.self (sz := s.heap.size)
  generalize hAe : va_A (bm_W E m) s.heap.size = A at hD hst ⊢
  have hsub : ∀ (u : bp_M) (z q : Nat), s.heap.size ≤ z → va_A (bm_W E u) z q → A q := bm_sub hAe
  have hS : va_S A s.heap s.heap [] := va_S.rf
  have hl := lv_entry ([.ref (E.2.1 0)]) (n := 1) (Nat.le_of_ble_eq_true rfl)
  rw [lg_entry_eq]
  generalize (lg_sl ([.ref (E.2.1 0)]) ++ List.replicate (1 - (lg_sl ([.ref (E.2.1 0)])).length) Slot.unset).toArray = ls at hl ⊢
  have hl : lv_has ls 1 [(0, .ref (E.2.1 0))] := hl
  refine bm_keyV (R := ({ frames := 1, cells := 0, slots := 0, locals := 21 })) E hx hb hr hlocks hK hAe (fun Q hret => ?_)
  clear B hD0 hlocks hr
  generalize ([.ref (E.2.1 0)] : List Value).toArray = args at htb hret ⊢
  clear hAe
  suffices hgo : ∀ (H : Heap) (locs : List Loc), va_P E.1 bp_cl (bm_W E m) H → va_D A (bm_W E m) → va_S A s.heap H locs → W p l e ({ frames := 1, cells := 0, slots := 0, locals := 21 }) s mt args below meth c H locs 0 0 Q (F0 mt 0 ls []) from hgo _ _ hP hD hS
  clear hP hD hS
  intro H locs hP hD hS
  unfold bm_M_reset at h
  refine lv_aload_n hx hb (dt_bm_M_reset 0 rfl) rfl (lv_at hl 0 rfl) ?_
  refine lv_iconst (v := 0) hx hb (dt_bm_M_reset 1 rfl) (by decide) ?_
  refine bm_pM_4 E hx hb htb hown hK hP hD hS (htb _ tw_772) (dt_bm_M_reset 2 rfl) (fun m1 em1 H locs hP hD hS => ?_)
  replace h := bp_nM_s h em1
  refine lv_aload_n hx hb (dt_bm_M_reset 3 rfl) rfl (lv_at hl 0 rfl) ?_
  refine lv_iconst (v := 0) hx hb (dt_bm_M_reset 4 rfl) (by decide) ?_
  obtain ⟨hg3, h⟩ := bp_g_s h
  refine bm_pM_5 E hx hb htb hown hK hP hD hS hg3 (htb _ tw_773) (dt_bm_M_reset 5 rfl) (fun m2 em2 H locs hP hD hS => ?_)
  replace h := bp_nM_s h em2
  refine lv_aload_n hx hb (dt_bm_M_reset 6 rfl) rfl (lv_at hl 0 rfl) ?_
  refine lv_iconst (v := 0) hx hb (dt_bm_M_reset 7 rfl) (by decide) ?_
  refine bm_pM_6 E hx hb htb hown hK hP hD hS (htb _ tw_774) (dt_bm_M_reset 8 rfl) (fun m4 em4 H locs hP hD hS => ?_)
  replace h := bp_nM_s h em4
  refine lv_aload_n hx hb (dt_bm_M_reset 9 rfl) rfl (lv_at hl 0 rfl) ?_
  refine lv_iconst (v := 0) hx hb (dt_bm_M_reset 10 rfl) (by decide) ?_
  refine bm_pM_8 E hx hb htb hown hK hP hD hS (htb _ tw_776) (dt_bm_M_reset 11 rfl) (fun m5 em5 H locs hP hD hS => ?_)
  replace h := bp_nM_s h em5
  refine lv_aload_n hx hb (dt_bm_M_reset 12 rfl) rfl (lv_at hl 0 rfl) ?_
  refine lv_iconst (v := 0) hx hb (dt_bm_M_reset 13 rfl) (by decide) ?_
  refine bm_pM_9 E hx hb htb hown hK hP hD hS (htb _ tw_777) (dt_bm_M_reset 14 rfl) (fun m6 em6 H locs hP hD hS => ?_)
  replace h := bp_nM_s h em6
  refine lv_aload_n hx hb (dt_bm_M_reset 15 rfl) rfl (lv_at hl 0 rfl) ?_
  refine lv_iconst (v := 0) hx hb (dt_bm_M_reset 16 rfl) (by decide) ?_
  obtain ⟨hg8, h⟩ := bp_g_s h
  refine bm_pM_13 E hx hb htb hown hK hP hD hS hg8 (htb _ tw_781) (dt_bm_M_reset 17 rfl) (fun m7 em7 H locs hP hD hS => ?_)
  replace h := bp_nM_s h em7
  refine lv_aload_n hx hb (dt_bm_M_reset 18 rfl) rfl (lv_at hl 0 rfl) ?_
  refine lv_iconst (v := 0) hx hb (dt_bm_M_reset 19 rfl) (by decide) ?_
  obtain ⟨hg10, h⟩ := bp_g_s h
  refine bm_pM_16 E hx hb htb hown hK hP hD hS hg10 (htb _ tw_784) (dt_bm_M_reset 20 rfl) (fun m9 em9 H locs hP hD hS => ?_)
  replace h := bp_nM_s h em9
  refine lv_aload_n hx hb (dt_bm_M_reset 21 rfl) rfl (lv_at hl 0 rfl) ?_
  refine lv_iconst (v := 0) hx hb (dt_bm_M_reset 22 rfl) (by decide) ?_
  refine bm_pM_34 E hx hb htb hown hK hP hD hS (htb _ tw_802) (dt_bm_M_reset 23 rfl) (fun m11 em11 H locs hP hD hS => ?_)
  replace h := bp_nM_s h em11
  refine lv_aload_n hx hb (dt_bm_M_reset 24 rfl) rfl (lv_at hl 0 rfl) ?_
  refine lv_iconst (v := 0) hx hb (dt_bm_M_reset 25 rfl) (by decide) ?_
  refine bm_pM_39 E hx hb htb hown hK hP hD hS (htb _ tw_807) (dt_bm_M_reset 26 rfl) (fun m12 em12 H locs hP hD hS => ?_)
  replace h := bp_nM_s h em12
  refine lv_aload_n hx hb (dt_bm_M_reset 27 rfl) rfl (lv_at hl 0 rfl) ?_
  obtain ⟨m13, hm13, h⟩ := bp_cV_s h
  refine bm_callV E hsub hS (va_runV (As := []) (rest := []) ⟨hx, hb, hml, hown, htb⟩ (wbm_M_clearLatest l E N  m12 H.size m13 hm13) (cwV 0 htb (bp_goodV tw_764 tw_766 tw_32 tw_79 tw_767) rfl rfl rfl ⟨rfl, hd_bm_M_clearLatest⟩ ⟨Nat.le_of_ble_eq_true rfl, Nat.le_of_ble_eq_true rfl⟩) (bm_preV E hsub hst hK hP hD hS (bm_gM E m12) rfl rfl _) rfl rfl hl.1 rfl (lv_room (Nat.le_of_ble_eq_true rfl)) (dt_bm_M_reset 28 rfl) ⟨Nat.zero_le _, Nat.zero_le _⟩) (fun H locs hP hD hS => ?_)
  exact hret _ _ _ _ _ h hP hD hS (dt_bm_M_reset 29 rfl)

set_option maxHeartbeats 4000000 in
set_option maxRecDepth 100000 in
theorem wbm_M_interBlock (l : Launch) (E : bm_E) (N : Nat) (a1 : Int32) (a2 : Int32) (m : bp_M) (sz : Nat) (mr : bp_M)  (h : bm_M_interBlock N a1 a2 m = some mr) : Met l y_bm_M_interBlock (Cond.code y_bm_M_interBlock prog_13_method_26_code 11 none :: bp_tb) ({ frames := 4, cells := 0, slots := 0, locals := 99 }) (bm_Pc E m sz [.ref (E.2.1 0), .int a1, .int a2]) (bm_Qv E m sz mr) 0 0 (va_A (bm_W E m) sz) := by
  refine Met.ofW (cc := prog_13_method_26_code) (maxL := 11) (ret := none) (by decide) rfl ?_
  intro p e s mt args below meth c s₁ B hml hv
  obtain ⟨rfl, hsz, hP, hK, hD0, hst⟩ := hv
  have hx := B.exec
  have hb := B.bytes
  have hr := B.returns
  have htb : ∀ w ∈ bp_tb, w.before _ s = true := fun w hw => atoms_spec (ws := Cond.code y_bm_M_interBlock prog_13_method_26_code 11 none :: bp_tb) B.pre w (List.mem_cons_of_mem _ hw)
  have hown : s.vm.findClass "BlockPicturesModel" = some mt.cls := findClass_of_methodNamed B.named
  have hlocks := B.notSynchronized
  subst hsz
  have hD := hD0.self (sz := s.heap.size)
  generalize hAe : va_A (bm_W E m) s.heap.size = A at hD hst ⊢
  have hsub : ∀ (u : bp_M) (z q : Nat), s.heap.size ≤ z → va_A (bm_W E u) z q → A q := bm_sub hAe
  have hS : va_S A s.heap s.heap [] := va_S.rf
  have hl := lv_entry ([.ref (E.2.1 0), .int a1, .int a2]) (n := 11) (Nat.le_of_ble_eq_true rfl)
  rw [lg_entry_eq]
  generalize (lg_sl ([.ref (E.2.1 0), .int a1, .int a2]) ++ List.replicate (11 - (lg_sl ([.ref (E.2.1 0), .int a1, .int a2])).length) Slot.unset).toArray = ls at hl ⊢
  have hl : lv_has ls 11 [(0, .ref (E.2.1 0)), (1, .int a1), (2, .int a2)] := hl
  refine bm_keyV (R := ({ frames := 4, cells := 0, slots := 0, locals := 99 })) E hx hb hr hlocks hK hAe (fun Q hret => ?_)
  clear B hD0 hlocks hr
  generalize ([.ref (E.2.1 0), .int a1, .int a2] : List Value).toArray = args at htb hret ⊢
  clear hAe
  have hL258 : ∀ (m : bp_M), bm_M_interBlock_L258 N a1 a2 m = some mr → ∀ (ls : Array Slot) (H : Heap) (locs : List Loc), lv_has ls 11 [] → va_P E.1 bp_cl (bm_W E m) H → va_D A (bm_W E m) → va_S A s.heap H locs → W p l e ({ frames := 4, cells := 0, slots := 0, locals := 99 }) s mt args below meth c H locs 0 0 Q (F0 mt 258 ls []) := by
    intro m h ls H locs hl hP hD hS
    rw [bm_M_interBlock_L258] at h
    exact hret _ _ _ _ _ h hP hD hS (dt_bm_M_interBlock 149 rfl)
  have hL169 : ∀ (n169 : Nat) (x3 : Int32) (x4 : Int32) (x6 : Int32) (x7 : Int32) (m : bp_M), bm_M_interBlock_L169 N a1 a2 n169 x3 x4 x6 x7 m = some mr → ∀ (ls : Array Slot) (H : Heap) (locs : List Loc), lv_has ls 11 [(0, .ref (E.2.1 0)), (1, .int a1), (3, .int x3), (4, .int x4), (6, .int x6), (7, .int x7)] → va_P E.1 bp_cl (bm_W E m) H → va_D A (bm_W E m) → va_S A s.heap H locs → W p l e ({ frames := 4, cells := 0, slots := 0, locals := 99 }) s mt args below meth c H locs 0 0 Q (F0 mt 169 ls []) := by
    intro n169
    induction n169 with
    | zero =>
      intro x3 x4 x6 x7 m h ls H locs hl hP hD hS
      rw [bm_M_interBlock_L169] at h
      cases h
    | succ n169 ih169 =>
      intro x3 x4 x6 x7 m h ls H locs hl hP hD hS
      rw [bm_M_interBlock_L169] at h
      refine lv_iload hx hb (dt_bm_M_interBlock 91 rfl) (lv_at hl 5 rfl) ?_
      refine lv_bipush (v := 16) hx hb (dt_bm_M_interBlock 92 rfl) (by decide) ?_
      refine lv_icmp_ge (tgt := 258) hx hb (dt_bm_M_interBlock 93 rfl) (by decide) (fun hc => ?_) (fun hc => ?_)
      · replace h := (if_pos hc).symm.trans h
        exact hL258 _ h ls H locs (lv_sub hl [] rfl) hP hD hS
      · replace h := (if_neg hc).symm.trans h
        refine lv_iconst (v := 4) hx hb (dt_bm_M_interBlock 94 rfl) (by decide) ?_
        refine lv_iload_n hx hb (dt_bm_M_interBlock 95 rfl) rfl (lv_at hl 1 rfl) ?_
        refine lv_iconst (v := 4) hx hb (dt_bm_M_interBlock 96 rfl) (by decide) ?_
        refine lv_irem hx hb (dt_bm_M_interBlock 97 rfl) (by decide) ?_
        refine lv_imul hx hb (dt_bm_M_interBlock 98 rfl) ?_
        refine lv_iload hx hb (dt_bm_M_interBlock 99 rfl) (lv_at hl 5 rfl) ?_
        refine lv_iconst (v := 4) hx hb (dt_bm_M_interBlock 100 rfl) (by decide) ?_
        refine lv_irem hx hb (dt_bm_M_interBlock 101 rfl) (by decide) ?_
        refine lv_iadd hx hb (dt_bm_M_interBlock 102 rfl) ?_
        refine lv_topi (fun y1 ey1 => ?_)
        replace h := bp_nI_s h ey1
        refine lv_istore hx hb (dt_bm_M_interBlock 103 rfl) hl (Nat.le_of_ble_eq_true rfl) rfl (fun ls hl => ?_)
        have hl : lv_has ls 11 [(8, .int y1), (0, .ref (E.2.1 0)), (1, .int a1), (3, .int x3), (4, .int x4), (6, .int x6), (7, .int x7)] := hl
        refine lv_iconst (v := 4) hx hb (dt_bm_M_interBlock 104 rfl) (by decide) ?_
        refine lv_iload_n hx hb (dt_bm_M_interBlock 105 rfl) rfl (lv_at hl 2 rfl) ?_
        refine lv_iconst (v := 4) hx hb (dt_bm_M_interBlock 106 rfl) (by decide) ?_
        refine lv_idiv hx hb (dt_bm_M_interBlock 107 rfl) (by decide) ?_
        refine lv_imul hx hb (dt_bm_M_interBlock 108 rfl) ?_
        refine lv_iload hx hb (dt_bm_M_interBlock 109 rfl) (lv_at hl 6 rfl) ?_
        refine lv_iconst (v := 4) hx hb (dt_bm_M_interBlock 110 rfl) (by decide) ?_
        refine lv_idiv hx hb (dt_bm_M_interBlock 111 rfl) (by decide) ?_
        refine lv_iadd hx hb (dt_bm_M_interBlock 112 rfl) ?_
        refine lv_topi (fun y2 ey2 => ?_)
        replace h := bp_nI_s h ey2
        refine lv_istore hx hb (dt_bm_M_interBlock 113 rfl) hl (Nat.le_of_ble_eq_true rfl) rfl (fun ls hl => ?_)
        have hl : lv_has ls 11 [(9, .int y2), (8, .int y1), (0, .ref (E.2.1 0)), (1, .int a1), (3, .int x3), (4, .int x4), (6, .int x6), (7, .int x7)] := hl
        refine lv_aload_n hx hb (dt_bm_M_interBlock 114 rfl) rfl (lv_at hl 2 rfl) ?_
        refine lv_iload hx hb (dt_bm_M_interBlock 115 rfl) (lv_at hl 6 rfl) ?_
        refine lv_iconst (v := 2) hx hb (dt_bm_M_interBlock 116 rfl) (by decide) ?_
        refine lv_iload hx hb (dt_bm_M_interBlock 117 rfl) (lv_at hl 1 rfl) ?_
        refine lv_imul hx hb (dt_bm_M_interBlock 118 rfl) ?_
        refine lv_iload_n hx hb (dt_bm_M_interBlock 119 rfl) rfl (lv_at hl 4 rfl) ?_
        refine lv_iadd hx hb (dt_bm_M_interBlock 120 rfl) ?_
        refine lv_iconst (v := 2) hx hb (dt_bm_M_interBlock 121 rfl) (by decide) ?_
        refine lv_iload hx hb (dt_bm_M_interBlock 122 rfl) (lv_at hl 0 rfl) ?_
        refine lv_imul hx hb (dt_bm_M_interBlock 123 rfl) ?_
        refine lv_iload hx hb (dt_bm_M_interBlock 124 rfl) (lv_at hl 5 rfl) ?_
        refine lv_iadd hx hb (dt_bm_M_interBlock 125 rfl) ?_
        obtain ⟨z4, m3, hm3, h⟩ := bp_cI_s h
        refine bm_callI E hsub hS (va_runV (As := [.int x6, .int ((2 * y1 : Int32) + x3 : Int32), .int ((2 * y2 : Int32) + x4 : Int32)]) (rest := []) ⟨hx, hb, hml, hown, htb⟩ (wbm_M_half l E N x6 ((2 * y1 : Int32) + x3 : Int32) ((2 * y2 : Int32) + x4 : Int32) m H.size z4 m3 hm3) (cwV 3 htb (bp_goodV tw_991 tw_993 tw_50 tw_79 tw_994) rfl rfl rfl ⟨rfl, hd_bm_M_half⟩ ⟨Nat.le_of_ble_eq_true rfl, Nat.le_of_ble_eq_true rfl⟩) (bm_preV E hsub hst hK hP hD hS (bm_gM E m) rfl rfl _) rfl rfl hl.1 rfl (lv_room (Nat.le_of_ble_eq_true rfl)) (dt_bm_M_interBlock 126 rfl) ⟨Nat.zero_le _, Nat.zero_le _⟩) (fun H locs hP hD hS => ?_)
        refine lv_istore hx hb (dt_bm_M_interBlock 127 rfl) hl (Nat.le_of_ble_eq_true rfl) rfl (fun ls hl => ?_)
        have hl : lv_has ls 11 [(10, .int z4), (9, .int y2), (8, .int y1), (0, .ref (E.2.1 0)), (1, .int a1), (3, .int x3), (4, .int x4), (6, .int x6), (7, .int x7)] := hl
        refine lv_aload_n hx hb (dt_bm_M_interBlock 128 rfl) rfl (lv_at hl 3 rfl) ?_
        refine va_get (D := E.1) (ci := 10) (v := .ref (E.2.1 5)) (C := "BlockPicturesModel") (T := bF_M) (N := 48) hx hb htb bm_in_M hown hK hP 0 (bm_gM E m3) rfl 23 (by decide) (htb _ tw_791) (fun _ h9 => h9) rfl (dt_bm_M_interBlock 129 rfl) ?_
        refine lv_bipush (v := 16) hx hb (dt_bm_M_interBlock 130 rfl) (by decide) ?_
        refine lv_iload hx hb (dt_bm_M_interBlock 131 rfl) (lv_at hl 1 rfl) ?_
        refine lv_imul hx hb (dt_bm_M_interBlock 132 rfl) ?_
        refine lv_iload hx hb (dt_bm_M_interBlock 133 rfl) (lv_at hl 2 rfl) ?_
        refine lv_iadd hx hb (dt_bm_M_interBlock 134 rfl) ?_
        refine lv_iload hx hb (dt_bm_M_interBlock 135 rfl) (lv_at hl 0 rfl) ?_
        refine lv_aload_n hx hb (dt_bm_M_interBlock 136 rfl) rfl (lv_at hl 3 rfl) ?_
        refine lv_iload hx hb (dt_bm_M_interBlock 137 rfl) (lv_at hl 8 rfl) ?_
        refine lv_iconst (v := 4) hx hb (dt_bm_M_interBlock 138 rfl) (by decide) ?_
        refine lv_idiv hx hb (dt_bm_M_interBlock 139 rfl) (by decide) ?_
        refine lv_iload hx hb (dt_bm_M_interBlock 140 rfl) (lv_at hl 8 rfl) ?_
        refine lv_iconst (v := 4) hx hb (dt_bm_M_interBlock 141 rfl) (by decide) ?_
        refine lv_irem hx hb (dt_bm_M_interBlock 142 rfl) (by decide) ?_
        obtain ⟨z6, m5, hm5, h⟩ := bp_cI_s h
        refine bm_callI E hsub hS (va_runV (As := [.int (x7 / 4 : Int32), .int (x7 - x7 / 4 * 4 : Int32)]) (rest := [.int z4, .int ((16 * y2 : Int32) + y1 : Int32), .ref (E.2.1 5)]) ⟨hx, hb, hml, hown, htb⟩ (wbm_M_added l E N (x7 / 4 : Int32) (x7 - x7 / 4 * 4 : Int32) m3 H.size z6 m5 hm5) (cwV 2 htb (bp_goodV tw_1005 tw_1007 tw_52 tw_79 tw_1008) rfl rfl rfl ⟨rfl, hd_bm_M_added⟩ ⟨Nat.le_of_ble_eq_true rfl, Nat.le_of_ble_eq_true rfl⟩) (bm_preV E hsub hst hK hP hD hS (bm_gM E m3) rfl rfl _) rfl rfl hl.1 rfl (lv_room (Nat.le_of_ble_eq_true rfl)) (dt_bm_M_interBlock 143 rfl) ⟨Nat.zero_le _, Nat.zero_le _⟩) (fun H locs hP hD hS => ?_)
        refine lv_iadd hx hb (dt_bm_M_interBlock 144 rfl) ?_
        obtain ⟨z8, m7, hm7, h⟩ := bp_cI_s h
        refine bm_callI E hsub hS (va_runS (As := [.int (z4 + z6 : Int32)]) (rest := [.int ((16 * y2 : Int32) + y1 : Int32), .ref (E.2.1 5)]) ⟨hx, hb, hml, hown, htb⟩ (wbm_M_limit l E N (z4 + z6 : Int32) m5 H.size z8 m7 hm7) (va_cwS 1 htb (bp_goodW tw_1002 tw_1003 tw_79 tw_1004) rfl rfl rfl hd_bm_M_limit ⟨Nat.le_of_ble_eq_true rfl, Nat.le_of_ble_eq_true rfl⟩) (bm_preS E hsub hst hK hP hD hS _) rfl rfl hl.1 rfl (lv_room (Nat.le_of_ble_eq_true rfl)) (dt_bm_M_interBlock 145 rfl) ⟨Nat.zero_le _, Nat.zero_le _⟩) (fun H locs hP hD hS => ?_)
        obtain ⟨hg9, h⟩ := bp_gi_s h
        refine bm_sI E hx hb hK hP hD hS (bm_ga5 E) hg9 (dt_bm_M_interBlock 146 rfl) (fun m10 em10 H locs hP hD hS => ?_)
        replace h := bp_nM_s h em10
        obtain ⟨y11, ey11⟩ : ∃ z : Int32, z = x7 + 1 := ⟨_, rfl⟩
        replace h := bp_nI_s h ey11
        refine lv_iinc (k := 8) (v := y11) hx hb (dt_bm_M_interBlock 147 rfl) hl rfl (by rw [ey11]; rfl) (Nat.le_of_ble_eq_true rfl) rfl (fun ls hl => ?_)
        have hl : lv_has ls 11 [(7, .int y11), (10, .int z4), (9, .int y2), (8, .int y1), (0, .ref (E.2.1 0)), (1, .int a1), (3, .int x3), (4, .int x4), (6, .int x6)] := hl
        refine lv_goto (tgt := 169) hx hb (dt_bm_M_interBlock 148 rfl) (by decide) ?_
        exact ih169 _ _ _ _ _ h ls H locs (lv_sub hl [4, 5, 6, 7, 8, 0] rfl) hP hD hS
  have hL127 : ∀ (x3 : Int32) (x4 : Int32) (x5 : Int32) (m : bp_M), bm_M_interBlock_L127 N a1 a2 x3 x4 x5 m = some mr → ∀ (ls : Array Slot) (H : Heap) (locs : List Loc), lv_has ls 11 [(0, .ref (E.2.1 0)), (1, .int a1), (3, .int x3), (4, .int x4), (5, .int x5)] → va_P E.1 bp_cl (bm_W E m) H → va_D A (bm_W E m) → va_S A s.heap H locs → W p l e ({ frames := 4, cells := 0, slots := 0, locals := 99 }) s mt args below meth c H locs 0 0 Q (F0 mt 127 ls []) := by
    intro x3 x4 x5 m h ls H locs hl hP hD hS
    rw [bm_M_interBlock_L127] at h
    refine lv_aload_n hx hb (dt_bm_M_interBlock 66 rfl) rfl (lv_at hl 0 rfl) ?_
    refine va_get (D := E.1) (ci := 10) (v := .int (m.1 0 12)) (C := "BlockPicturesModel") (T := bF_M) (N := 48) hx hb htb bm_in_M hown hK hP 0 (bm_gM E m) rfl 12 (by decide) (htb _ tw_780) (fun _ h9 => h9) rfl (dt_bm_M_interBlock 67 rfl) ?_
    refine lv_if_eq (tgt := 135) hx hb (dt_bm_M_interBlock 68 rfl) (by decide) (fun hc => ?_) (fun hc => ?_)
    · replace h := (if_pos hc).symm.trans h
      refine lv_aload_n hx hb (dt_bm_M_interBlock 70 rfl) rfl (lv_at hl 0 rfl) ?_
      refine va_get (D := E.1) (ci := 10) (v := .ref (E.2.1 8)) (C := "BlockPicturesModel") (T := bF_M) (N := 48) hx hb htb bm_in_M hown hK hP 0 (bm_gM E m) rfl 26 (by decide) (htb _ tw_794) (fun _ h9 => h9) rfl (dt_bm_M_interBlock 71 rfl) ?_
      refine lv_iload_n hx hb (dt_bm_M_interBlock 72 rfl) rfl (lv_at hl 1 rfl) ?_
      refine lv_iload_n hx hb (dt_bm_M_interBlock 73 rfl) rfl (lv_at hl 2 rfl) ?_
      obtain ⟨hg1, h⟩ := bp_gi_s h
      refine bm_sI E hx hb hK hP hD hS (bm_ga8 E) hg1 (dt_bm_M_interBlock 74 rfl) (fun m2 em2 H locs hP hD hS => ?_)
      replace h := bp_nM_s h em2
      refine lv_aload_n hx hb (dt_bm_M_interBlock 75 rfl) rfl (lv_at hl 0 rfl) ?_
      refine va_get (D := E.1) (ci := 10) (v := .ref (E.2.1 9)) (C := "BlockPicturesModel") (T := bF_M) (N := 48) hx hb htb bm_in_M hown hK hP 0 (bm_gM E m2) rfl 27 (by decide) (htb _ tw_795) (fun _ h9 => h9) rfl (dt_bm_M_interBlock 76 rfl) ?_
      refine lv_iload_n hx hb (dt_bm_M_interBlock 77 rfl) rfl (lv_at hl 1 rfl) ?_
      refine lv_iload hx hb (dt_bm_M_interBlock 78 rfl) (lv_at hl 3 rfl) ?_
      obtain ⟨hg3, h⟩ := bp_gi_s h
      refine bm_sI E hx hb hK hP hD hS (bm_ga9 E) hg3 (dt_bm_M_interBlock 79 rfl) (fun m4 em4 H locs hP hD hS => ?_)
      replace h := bp_nM_s h em4
      refine lv_aload_n hx hb (dt_bm_M_interBlock 80 rfl) rfl (lv_at hl 0 rfl) ?_
      refine va_get (D := E.1) (ci := 10) (v := .ref (E.2.1 10)) (C := "BlockPicturesModel") (T := bF_M) (N := 48) hx hb htb bm_in_M hown hK hP 0 (bm_gM E m4) rfl 28 (by decide) (htb _ tw_796) (fun _ h9 => h9) rfl (dt_bm_M_interBlock 81 rfl) ?_
      refine lv_iload_n hx hb (dt_bm_M_interBlock 82 rfl) rfl (lv_at hl 1 rfl) ?_
      refine lv_iload hx hb (dt_bm_M_interBlock 83 rfl) (lv_at hl 4 rfl) ?_
      obtain ⟨hg5, h⟩ := bp_gi_s h
      refine bm_sI E hx hb hK hP hD hS (bm_ga10 E) hg5 (dt_bm_M_interBlock 84 rfl) (fun m6 em6 H locs hP hD hS => ?_)
      replace h := bp_nM_s h em6
      refine lv_aload_n hx hb (dt_bm_M_interBlock 85 rfl) rfl (lv_at hl 0 rfl) ?_
      refine lv_iload hx hb (dt_bm_M_interBlock 86 rfl) (lv_at hl 4 rfl) ?_
      obtain ⟨z8, m7, hm7, h⟩ := bp_cI_s h
      refine bm_callI E hsub hS (va_runV (As := [.int x5]) (rest := []) ⟨hx, hb, hml, hown, htb⟩ (wbm_M_listed l E N x5 m6 H.size z8 m7 hm7) (cwV 1 htb (bp_goodV tw_983 tw_985 tw_48 tw_79 tw_986) rfl rfl rfl ⟨rfl, hd_bm_M_listed⟩ ⟨Nat.le_of_ble_eq_true rfl, Nat.le_of_ble_eq_true rfl⟩) (bm_preV E hsub hst hK hP hD hS (bm_gM E m6) rfl rfl _) rfl rfl hl.1 rfl (lv_room (Nat.le_of_ble_eq_true rfl)) (dt_bm_M_interBlock 87 rfl) ⟨Nat.zero_le _, Nat.zero_le _⟩) (fun H locs hP hD hS => ?_)
      refine lv_istore hx hb (dt_bm_M_interBlock 88 rfl) hl (Nat.le_of_ble_eq_true rfl) rfl (fun ls hl => ?_)
      have hl : lv_has ls 11 [(6, .int z8), (0, .ref (E.2.1 0)), (1, .int a1), (3, .int x3), (4, .int x4), (5, .int x5)] := hl
      refine lv_iconst (v := 0) hx hb (dt_bm_M_interBlock 89 rfl) (by decide) ?_
      refine lv_istore hx hb (dt_bm_M_interBlock 90 rfl) hl (Nat.le_of_ble_eq_true rfl) rfl (fun ls hl => ?_)
      have hl : lv_has ls 11 [(7, .int 0), (6, .int z8), (0, .ref (E.2.1 0)), (1, .int a1), (3, .int x3), (4, .int x4), (5, .int x5)] := hl
      exact hL169 _ _ _ _ _ _ h ls H locs (lv_sub hl [2, 3, 4, 5, 1, 0] rfl) hP hD hS
    · replace h := (if_neg hc).symm.trans h
      exact hret _ _ _ _ _ h hP hD hS (dt_bm_M_interBlock 69 rfl)
  have hL119 : ∀ (x3 : Int32) (x4 : Int32) (x5 : Int32) (s0 : Int32) (m : bp_M), bm_M_interBlock_L119 N a1 a2 x3 x4 x5 s0 m = some mr → ∀ (ls : Array Slot) (H : Heap) (locs : List Loc), lv_has ls 11 [(0, .ref (E.2.1 0)), (1, .int a1), (3, .int x3), (4, .int x4), (5, .int x5)] → va_P E.1 bp_cl (bm_W E m) H → va_D A (bm_W E m) → va_S A s.heap H locs → W p l e ({ frames := 4, cells := 0, slots := 0, locals := 99 }) s mt args below meth c H locs 0 0 Q (F0 mt 119 ls [.int s0, .ref (E.2.1 0)]) := by
    intro x3 x4 x5 s0 m h ls H locs hl hP hD hS
    rw [bm_M_interBlock_L119] at h
    refine bm_pM_12 E hx hb htb hown hK hP hD hS (htb _ tw_780) (dt_bm_M_interBlock 62 rfl) (fun m1 em1 H locs hP hD hS => ?_)
    replace h := bp_nM_s h em1
    refine lv_aload_n hx hb (dt_bm_M_interBlock 63 rfl) rfl (lv_at hl 0 rfl) ?_
    refine lv_iload_n hx hb (dt_bm_M_interBlock 64 rfl) rfl (lv_at hl 1 rfl) ?_
    obtain ⟨m2, hm2, h⟩ := bp_cV_s h
    refine bm_callV E hsub hS (va_runV (As := [.int a1]) (rest := []) ⟨hx, hb, hml, hown, htb⟩ (wbm_M_residual l E N a1 m1 H.size m2 hm2) (cwV 1 htb (bp_goodV tw_979 tw_981 tw_47 tw_79 tw_982) rfl rfl rfl ⟨rfl, hd_bm_M_residual⟩ ⟨Nat.le_of_ble_eq_true rfl, Nat.le_of_ble_eq_true rfl⟩) (bm_preV E hsub hst hK hP hD hS (bm_gM E m1) rfl rfl _) rfl rfl hl.1 rfl (lv_room (Nat.le_of_ble_eq_true rfl)) (dt_bm_M_interBlock 65 rfl) ⟨Nat.zero_le _, Nat.zero_le _⟩) (fun H locs hP hD hS => ?_)
    exact hL127 _ _ _ _ h ls H locs (lv_sub hl [0, 1, 2, 3, 4] rfl) hP hD hS
  have hL115 : ∀ (x3 : Int32) (x4 : Int32) (x5 : Int32) (m : bp_M), bm_M_interBlock_L115 N a1 a2 x3 x4 x5 m = some mr → ∀ (ls : Array Slot) (H : Heap) (locs : List Loc), lv_has ls 11 [(0, .ref (E.2.1 0)), (1, .int a1), (3, .int x3), (4, .int x4), (5, .int x5)] → va_P E.1 bp_cl (bm_W E m) H → va_D A (bm_W E m) → va_S A s.heap H locs → W p l e ({ frames := 4, cells := 0, slots := 0, locals := 99 }) s mt args below meth c H locs 0 0 Q (F0 mt 115 ls [.ref (E.2.1 0)]) := by
    intro x3 x4 x5 m h ls H locs hl hP hD hS
    rw [bm_M_interBlock_L115] at h
    refine lv_aload_n hx hb (dt_bm_M_interBlock 60 rfl) rfl (lv_at hl 0 rfl) ?_
    refine va_get (D := E.1) (ci := 10) (v := .int (m.1 0 12)) (C := "BlockPicturesModel") (T := bF_M) (N := 48) hx hb htb bm_in_M hown hK hP 0 (bm_gM E m) rfl 12 (by decide) (htb _ tw_780) (fun _ h9 => h9) rfl (dt_bm_M_interBlock 61 rfl) ?_
    exact hL119 _ _ _ _ _ h ls H locs (lv_sub hl [0, 1, 2, 3, 4] rfl) hP hD hS
  have hL79 : ∀ (x3 : Int32) (x4 : Int32) (x5 : Int32) (s0 : Int32) (m : bp_M), bm_M_interBlock_L79 N a1 a2 x3 x4 x5 s0 m = some mr → ∀ (ls : Array Slot) (H : Heap) (locs : List Loc), lv_has ls 11 [(0, .ref (E.2.1 0)), (1, .int a1), (3, .int x3), (4, .int x4), (5, .int x5)] → va_P E.1 bp_cl (bm_W E m) H → va_D A (bm_W E m) → va_S A s.heap H locs → W p l e ({ frames := 4, cells := 0, slots := 0, locals := 99 }) s mt args below meth c H locs 0 0 Q (F0 mt 79 ls [.int s0, .ref (E.2.1 0)]) := by
    intro x3 x4 x5 s0 m h ls H locs hl hP hD hS
    rw [bm_M_interBlock_L79] at h
    refine bm_pM_12 E hx hb htb hown hK hP hD hS (htb _ tw_780) (dt_bm_M_interBlock 43 rfl) (fun m1 em1 H locs hP hD hS => ?_)
    replace h := bp_nM_s h em1
    refine lv_iload hx hb (dt_bm_M_interBlock 44 rfl) (lv_at hl 3 rfl) ?_
    refine lv_aload_n hx hb (dt_bm_M_interBlock 45 rfl) rfl (lv_at hl 0 rfl) ?_
    obtain ⟨z3, m2, hm2, h⟩ := bp_cI_s h
    refine bm_callI E hsub hS (va_runV (As := []) (rest := [.int x4]) ⟨hx, hb, hml, hown, htb⟩ (wbm_M_signed l E N  m1 H.size z3 m2 hm2) (cwV 0 htb (bp_goodV tw_960 tw_962 tw_43 tw_79 tw_963) rfl rfl rfl ⟨rfl, hd_bm_M_signed⟩ ⟨Nat.le_of_ble_eq_true rfl, Nat.le_of_ble_eq_true rfl⟩) (bm_preV E hsub hst hK hP hD hS (bm_gM E m1) rfl rfl _) rfl rfl hl.1 rfl (lv_room (Nat.le_of_ble_eq_true rfl)) (dt_bm_M_interBlock 46 rfl) ⟨Nat.zero_le _, Nat.zero_le _⟩) (fun H locs hP hD hS => ?_)
    refine lv_iadd hx hb (dt_bm_M_interBlock 47 rfl) ?_
    refine lv_topi (fun y4 ey4 => ?_)
    replace h := bp_nI_s h ey4
    refine lv_istore hx hb (dt_bm_M_interBlock 48 rfl) hl (Nat.le_of_ble_eq_true rfl) rfl (fun ls hl => ?_)
    have hl : lv_has ls 11 [(4, .int y4), (0, .ref (E.2.1 0)), (1, .int a1), (3, .int x3), (5, .int x5)] := hl
    refine lv_aload_n hx hb (dt_bm_M_interBlock 49 rfl) rfl (lv_at hl 1 rfl) ?_
    refine lv_aload_n hx hb (dt_bm_M_interBlock 50 rfl) rfl (lv_at hl 1 rfl) ?_
    refine va_get (D := E.1) (ci := 10) (v := .int (m2.1 0 12)) (C := "BlockPicturesModel") (T := bF_M) (N := 48) hx hb htb bm_in_M hown hK hP 0 (bm_gM E m2) rfl 12 (by decide) (htb _ tw_780) (fun _ h9 => h9) rfl (dt_bm_M_interBlock 51 rfl) ?_
    refine lv_if_ne (tgt := 115) hx hb (dt_bm_M_interBlock 52 rfl) (by decide) (fun hc => ?_) (fun hc => ?_)
    · replace h := (if_pos hc).symm.trans h
      exact hL115 _ _ _ _ h ls H locs (lv_sub hl [1, 2, 3, 0, 4] rfl) hP hD hS
    · replace h := (if_neg (fun hn => hn hc)).symm.trans h
      refine lv_iload hx hb (dt_bm_M_interBlock 53 rfl) (lv_at hl 0 rfl) ?_
      refine lv_bipush (v := (-64)) hx hb (dt_bm_M_interBlock 54 rfl) (by decide) ?_
      refine lv_bipush (v := 64) hx hb (dt_bm_M_interBlock 55 rfl) (by decide) ?_
      obtain ⟨z6, m5, hm5, h⟩ := bp_cI_s h
      refine bm_callI E hsub hS (va_runS (As := [.int y4, .int (-64), .int 64]) (rest := [.ref (E.2.1 0)]) ⟨hx, hb, hml, hown, htb⟩ (wbm_M_within l E N y4 (-64) 64 m2 H.size z6 m5 hm5) (va_cwS 3 htb (bp_goodW tw_917 tw_918 tw_79 tw_919) rfl rfl rfl hd_bm_M_within ⟨Nat.le_of_ble_eq_true rfl, Nat.le_of_ble_eq_true rfl⟩) (bm_preS E hsub hst hK hP hD hS _) rfl rfl hl.1 rfl (lv_room (Nat.le_of_ble_eq_true rfl)) (dt_bm_M_interBlock 56 rfl) ⟨Nat.zero_le _, Nat.zero_le _⟩) (fun H locs hP hD hS => ?_)
      refine lv_if_ne (tgt := 115) hx hb (dt_bm_M_interBlock 57 rfl) (by decide) (fun hc => ?_) (fun hc => ?_)
      · replace h := (if_pos hc).symm.trans h
        exact hL115 _ _ _ _ h ls H locs (lv_sub hl [1, 2, 3, 0, 4] rfl) hP hD hS
      · replace h := (if_neg (fun hn => hn hc)).symm.trans h
        refine lv_iconst (v := 5) hx hb (dt_bm_M_interBlock 58 rfl) (by decide) ?_
        refine lv_goto (tgt := 119) hx hb (dt_bm_M_interBlock 59 rfl) (by decide) ?_
        exact hL119 _ _ _ _ _ h ls H locs (lv_sub hl [1, 2, 3, 0, 4] rfl) hP hD hS
  have hL75 : ∀ (x3 : Int32) (x4 : Int32) (x5 : Int32) (m : bp_M), bm_M_interBlock_L75 N a1 a2 x3 x4 x5 m = some mr → ∀ (ls : Array Slot) (H : Heap) (locs : List Loc), lv_has ls 11 [(0, .ref (E.2.1 0)), (1, .int a1), (3, .int x3), (4, .int x4), (5, .int x5)] → va_P E.1 bp_cl (bm_W E m) H → va_D A (bm_W E m) → va_S A s.heap H locs → W p l e ({ frames := 4, cells := 0, slots := 0, locals := 99 }) s mt args below meth c H locs 0 0 Q (F0 mt 75 ls [.ref (E.2.1 0)]) := by
    intro x3 x4 x5 m h ls H locs hl hP hD hS
    rw [bm_M_interBlock_L75] at h
    refine lv_aload_n hx hb (dt_bm_M_interBlock 41 rfl) rfl (lv_at hl 0 rfl) ?_
    refine va_get (D := E.1) (ci := 10) (v := .int (m.1 0 12)) (C := "BlockPicturesModel") (T := bF_M) (N := 48) hx hb htb bm_in_M hown hK hP 0 (bm_gM E m) rfl 12 (by decide) (htb _ tw_780) (fun _ h9 => h9) rfl (dt_bm_M_interBlock 42 rfl) ?_
    exact hL79 _ _ _ _ _ h ls H locs (lv_sub hl [0, 1, 2, 3, 4] rfl) hP hD hS
  have hL43 : ∀ (x3 : Int32) (x4 : Int32) (s0 : Int32) (m : bp_M), bm_M_interBlock_L43 N a1 a2 x3 x4 s0 m = some mr → ∀ (ls : Array Slot) (H : Heap) (locs : List Loc), lv_has ls 11 [(0, .ref (E.2.1 0)), (1, .int a1), (3, .int x3), (4, .int x4)] → va_P E.1 bp_cl (bm_W E m) H → va_D A (bm_W E m) → va_S A s.heap H locs → W p l e ({ frames := 4, cells := 0, slots := 0, locals := 99 }) s mt args below meth c H locs 0 0 Q (F0 mt 43 ls [.int s0]) := by
    intro x3 x4 s0 m h ls H locs hl hP hD hS
    rw [bm_M_interBlock_L43] at h
    refine lv_istore hx hb (dt_bm_M_interBlock 24 rfl) hl (Nat.le_of_ble_eq_true rfl) rfl (fun ls hl => ?_)
    have hl : lv_has ls 11 [(5, .int s0), (0, .ref (E.2.1 0)), (1, .int a1), (3, .int x3), (4, .int x4)] := hl
    refine lv_iload_n hx hb (dt_bm_M_interBlock 25 rfl) rfl (lv_at hl 3 rfl) ?_
    refine lv_aload_n hx hb (dt_bm_M_interBlock 26 rfl) rfl (lv_at hl 1 rfl) ?_
    obtain ⟨z2, m1, hm1, h⟩ := bp_cI_s h
    refine bm_callI E hsub hS (va_runV (As := []) (rest := [.int x3]) ⟨hx, hb, hml, hown, htb⟩ (wbm_M_signed l E N  m H.size z2 m1 hm1) (cwV 0 htb (bp_goodV tw_960 tw_962 tw_43 tw_79 tw_963) rfl rfl rfl ⟨rfl, hd_bm_M_signed⟩ ⟨Nat.le_of_ble_eq_true rfl, Nat.le_of_ble_eq_true rfl⟩) (bm_preV E hsub hst hK hP hD hS (bm_gM E m) rfl rfl _) rfl rfl hl.1 rfl (lv_room (Nat.le_of_ble_eq_true rfl)) (dt_bm_M_interBlock 27 rfl) ⟨Nat.zero_le _, Nat.zero_le _⟩) (fun H locs hP hD hS => ?_)
    refine lv_iadd hx hb (dt_bm_M_interBlock 28 rfl) ?_
    refine lv_topi (fun y3 ey3 => ?_)
    replace h := bp_nI_s h ey3
    refine lv_istore_n hx hb (dt_bm_M_interBlock 29 rfl) rfl hl (Nat.le_of_ble_eq_true rfl) rfl (fun ls hl => ?_)
    have hl : lv_has ls 11 [(3, .int y3), (5, .int s0), (0, .ref (E.2.1 0)), (1, .int a1), (4, .int x4)] := hl
    refine lv_aload_n hx hb (dt_bm_M_interBlock 30 rfl) rfl (lv_at hl 2 rfl) ?_
    refine lv_aload_n hx hb (dt_bm_M_interBlock 31 rfl) rfl (lv_at hl 2 rfl) ?_
    refine va_get (D := E.1) (ci := 10) (v := .int (m1.1 0 12)) (C := "BlockPicturesModel") (T := bF_M) (N := 48) hx hb htb bm_in_M hown hK hP 0 (bm_gM E m1) rfl 12 (by decide) (htb _ tw_780) (fun _ h9 => h9) rfl (dt_bm_M_interBlock 32 rfl) ?_
    refine lv_if_ne (tgt := 75) hx hb (dt_bm_M_interBlock 33 rfl) (by decide) (fun hc => ?_) (fun hc => ?_)
    · replace h := (if_pos hc).symm.trans h
      exact hL75 _ _ _ _ h ls H locs (lv_sub hl [2, 3, 0, 4, 1] rfl) hP hD hS
    · replace h := (if_neg (fun hn => hn hc)).symm.trans h
      refine lv_iload_n hx hb (dt_bm_M_interBlock 34 rfl) rfl (lv_at hl 0 rfl) ?_
      refine lv_bipush (v := (-64)) hx hb (dt_bm_M_interBlock 35 rfl) (by decide) ?_
      refine lv_bipush (v := 64) hx hb (dt_bm_M_interBlock 36 rfl) (by decide) ?_
      obtain ⟨z5, m4, hm4, h⟩ := bp_cI_s h
      refine bm_callI E hsub hS (va_runS (As := [.int y3, .int (-64), .int 64]) (rest := [.ref (E.2.1 0)]) ⟨hx, hb, hml, hown, htb⟩ (wbm_M_within l E N y3 (-64) 64 m1 H.size z5 m4 hm4) (va_cwS 3 htb (bp_goodW tw_917 tw_918 tw_79 tw_919) rfl rfl rfl hd_bm_M_within ⟨Nat.le_of_ble_eq_true rfl, Nat.le_of_ble_eq_true rfl⟩) (bm_preS E hsub hst hK hP hD hS _) rfl rfl hl.1 rfl (lv_room (Nat.le_of_ble_eq_true rfl)) (dt_bm_M_interBlock 37 rfl) ⟨Nat.zero_le _, Nat.zero_le _⟩) (fun H locs hP hD hS => ?_)
      refine lv_if_ne (tgt := 75) hx hb (dt_bm_M_interBlock 38 rfl) (by decide) (fun hc => ?_) (fun hc => ?_)
      · replace h := (if_pos hc).symm.trans h
        exact hL75 _ _ _ _ h ls H locs (lv_sub hl [2, 3, 0, 4, 1] rfl) hP hD hS
      · replace h := (if_neg (fun hn => hn hc)).symm.trans h
        refine lv_iconst (v := 5) hx hb (dt_bm_M_interBlock 39 rfl) (by decide) ?_
        refine lv_goto (tgt := 79) hx hb (dt_bm_M_interBlock 40 rfl) (by decide) ?_
        exact hL79 _ _ _ _ _ h ls H locs (lv_sub hl [2, 3, 0, 4, 1] rfl) hP hD hS
  suffices hgo : ∀ (H : Heap) (locs : List Loc), va_P E.1 bp_cl (bm_W E m) H → va_D A (bm_W E m) → va_S A s.heap H locs → W p l e ({ frames := 4, cells := 0, slots := 0, locals := 99 }) s mt args below meth c H locs 0 0 Q (F0 mt 0 ls []) from hgo _ _ hP hD hS
  clear hP hD hS
  intro H locs hP hD hS
  unfold bm_M_interBlock at h
  refine lv_aload_n hx hb (dt_bm_M_interBlock 0 rfl) rfl (lv_at hl 0 rfl) ?_
  refine lv_iload_n hx hb (dt_bm_M_interBlock 1 rfl) rfl (lv_at hl 1 rfl) ?_
  refine lv_iconst (v := 0) hx hb (dt_bm_M_interBlock 2 rfl) (by decide) ?_
  obtain ⟨z2, m1, hm1, h⟩ := bp_cI_s h
  refine bm_callI E hsub hS (va_runV (As := [.int a1, .int 0]) (rest := []) ⟨hx, hb, hml, hown, htb⟩ (wbm_M_guessed l E N a1 0 m H.size z2 m1 hm1) (cwV 2 htb (bp_goodV tw_972 tw_974 tw_46 tw_79 tw_975) rfl rfl rfl ⟨rfl, hd_bm_M_guessed⟩ ⟨Nat.le_of_ble_eq_true rfl, Nat.le_of_ble_eq_true rfl⟩) (bm_preV E hsub hst hK hP hD hS (bm_gM E m) rfl rfl _) rfl rfl hl.1 rfl (lv_room (Nat.le_of_ble_eq_true rfl)) (dt_bm_M_interBlock 3 rfl) ⟨Nat.zero_le _, Nat.zero_le _⟩) (fun H locs hP hD hS => ?_)
  refine lv_istore_n hx hb (dt_bm_M_interBlock 4 rfl) rfl hl (Nat.le_of_ble_eq_true rfl) rfl (fun ls hl => ?_)
  have hl : lv_has ls 11 [(3, .int z2), (0, .ref (E.2.1 0)), (1, .int a1), (2, .int a2)] := hl
  refine lv_aload_n hx hb (dt_bm_M_interBlock 5 rfl) rfl (lv_at hl 1 rfl) ?_
  refine lv_iload_n hx hb (dt_bm_M_interBlock 6 rfl) rfl (lv_at hl 2 rfl) ?_
  refine lv_iconst (v := 1) hx hb (dt_bm_M_interBlock 7 rfl) (by decide) ?_
  obtain ⟨z4, m3, hm3, h⟩ := bp_cI_s h
  refine bm_callI E hsub hS (va_runV (As := [.int a1, .int 1]) (rest := []) ⟨hx, hb, hml, hown, htb⟩ (wbm_M_guessed l E N a1 1 m1 H.size z4 m3 hm3) (cwV 2 htb (bp_goodV tw_972 tw_974 tw_46 tw_79 tw_975) rfl rfl rfl ⟨rfl, hd_bm_M_guessed⟩ ⟨Nat.le_of_ble_eq_true rfl, Nat.le_of_ble_eq_true rfl⟩) (bm_preV E hsub hst hK hP hD hS (bm_gM E m1) rfl rfl _) rfl rfl hl.1 rfl (lv_room (Nat.le_of_ble_eq_true rfl)) (dt_bm_M_interBlock 8 rfl) ⟨Nat.zero_le _, Nat.zero_le _⟩) (fun H locs hP hD hS => ?_)
  refine lv_istore hx hb (dt_bm_M_interBlock 9 rfl) hl (Nat.le_of_ble_eq_true rfl) rfl (fun ls hl => ?_)
  have hl : lv_has ls 11 [(4, .int z4), (3, .int z2), (0, .ref (E.2.1 0)), (1, .int a1), (2, .int a2)] := hl
  refine lv_iconst (v := 0) hx hb (dt_bm_M_interBlock 10 rfl) (by decide) ?_
  refine lv_istore hx hb (dt_bm_M_interBlock 11 rfl) hl (Nat.le_of_ble_eq_true rfl) rfl (fun ls hl => ?_)
  have hl : lv_has ls 11 [(5, .int 0), (4, .int z4), (3, .int z2), (0, .ref (E.2.1 0)), (1, .int a1), (2, .int a2)] := hl
  refine lv_iload_n hx hb (dt_bm_M_interBlock 12 rfl) rfl (lv_at hl 5 rfl) ?_
  refine lv_if_ne (tgt := 127) hx hb (dt_bm_M_interBlock 13 rfl) (by decide) (fun hc => ?_) (fun hc => ?_)
  · replace h := (if_pos hc).symm.trans h
    exact hL127 _ _ _ _ h ls H locs (lv_sub hl [3, 4, 2, 1, 0] rfl) hP hD hS
  · replace h := (if_neg (fun hn => hn hc)).symm.trans h
    refine lv_aload_n hx hb (dt_bm_M_interBlock 14 rfl) rfl (lv_at hl 3 rfl) ?_
    refine va_get (D := E.1) (ci := 10) (v := .int (m3.1 0 20)) (C := "BlockPicturesModel") (T := bF_M) (N := 48) hx hb htb bm_in_M hown hK hP 0 (bm_gM E m3) rfl 20 (by decide) (htb _ tw_788) (fun _ h9 => h9) rfl (dt_bm_M_interBlock 15 rfl) ?_
    refine lv_if_le (tgt := 42) hx hb (dt_bm_M_interBlock 16 rfl) (by decide) (fun hc => ?_) (fun hc => ?_)
    · replace h := (if_pos hc).symm.trans h
      refine lv_iconst (v := 0) hx hb (dt_bm_M_interBlock 23 rfl) (by decide) ?_
      exact hL43 _ _ _ _ h ls H locs (lv_sub hl [3, 4, 2, 1] rfl) hP hD hS
    · replace h := (if_neg hc).symm.trans h
      refine lv_aload_n hx hb (dt_bm_M_interBlock 17 rfl) rfl (lv_at hl 3 rfl) ?_
      refine lv_aload_n hx hb (dt_bm_M_interBlock 18 rfl) rfl (lv_at hl 3 rfl) ?_
      refine va_get (D := E.1) (ci := 10) (v := .int (m3.1 0 20)) (C := "BlockPicturesModel") (T := bF_M) (N := 48) hx hb htb bm_in_M hown hK hP 0 (bm_gM E m3) rfl 20 (by decide) (htb _ tw_788) (fun _ h9 => h9) rfl (dt_bm_M_interBlock 19 rfl) ?_
      refine lv_bipush (v := 8) hx hb (dt_bm_M_interBlock 20 rfl) (by decide) ?_
      obtain ⟨z6, m5, hm5, h⟩ := bp_cI_s h
      refine bm_callI E hsub hS (va_runV (As := [.int (m3.1 0 20), .int 8]) (rest := []) ⟨hx, hb, hml, hown, htb⟩ (wbm_M_number l E N (m3.1 0 20) 8 m3 H.size z6 m5 hm5) (cwV 2 htb (bp_goodV tw_940 tw_942 tw_38 tw_79 tw_943) rfl rfl rfl ⟨rfl, hd_bm_M_number⟩ ⟨Nat.le_of_ble_eq_true rfl, Nat.le_of_ble_eq_true rfl⟩) (bm_preV E hsub hst hK hP hD hS (bm_gM E m3) rfl rfl _) rfl rfl hl.1 rfl (lv_room (Nat.le_of_ble_eq_true rfl)) (dt_bm_M_interBlock 21 rfl) ⟨Nat.zero_le _, Nat.zero_le _⟩) (fun H locs hP hD hS => ?_)
      refine lv_goto (tgt := 43) hx hb (dt_bm_M_interBlock 22 rfl) (by decide) ?_
      exact hL43 _ _ _ _ h ls H locs (lv_sub hl [3, 4, 2, 1] rfl) hP hD hS
set_option maxHeartbeats 4000000 in
set_option maxRecDepth 100000 in
theorem wbm_M_corner (l : Launch) (E : bm_E) (N : Nat) (a0 : Int32) (m : bp_M) (sz : Nat) (r : Int32) (mr : bp_M)  (h : bm_M_corner N a0 m = some (r, mr)) : Met l y_bm_M_corner (Cond.code y_bm_M_corner prog_13_method_22_code 1 (some .int) :: bp_tb) ({ frames := 0, cells := 0, slots := 0, locals := 0 }) (bm_Pc E m sz [.int a0]) (bm_Qi E m sz r mr) 0 0 (va_A (bm_W E m) sz) := by
  refine Met.ofW (cc := prog_13_method_22_code) (maxL := 1) (ret := (some .int)) (by decide) rfl ?_
  intro p e s mt args below meth c s₁ B hml hv
  obtain ⟨rfl, hsz, hP, hK, hD0, hst⟩ := hv
  have hx := B.exec
  have hb := B.bytes
  have hr := B.returns
  have htb : ∀ w ∈ bp_tb, w.before _ s = true := fun w hw => atoms_spec (ws := Cond.code y_bm_M_corner prog_13_method_22_code 1 (some .int) :: bp_tb) B.pre w (List.mem_cons_of_mem _ hw)
  have hown : s.vm.findClass "BlockPicturesModel" = some mt.cls := findClass_of_methodNamed B.named
  have hlocks := B.notSynchronized
  subst hsz
  have hD := hD0.self (sz := s.heap.size)
  generalize hAe : va_A (bm_W E m) s.heap.size = A at hD hst ⊢
  have hsub : ∀ (u : bp_M) (z q : Nat), s.heap.size ≤ z → va_A (bm_W E u) z q → A q := bm_sub hAe
  have hS : va_S A s.heap s.heap [] := va_S.rf
  have hl := lv_entry ([.int a0]) (n := 1) (Nat.le_of_ble_eq_true rfl)
  rw [lg_entry_eq]
  generalize (lg_sl ([.int a0]) ++ List.replicate (1 - (lg_sl ([.int a0])).length) Slot.unset).toArray = ls at hl ⊢
  have hl : lv_has ls 1 [(0, .int a0)] := hl
  refine bm_keyI (R := ({ frames := 0, cells := 0, slots := 0, locals := 0 })) E hx hb hr hlocks hK hAe (fun Q hret => ?_)
  clear B hD0 hlocks hr
  generalize ([.int a0] : List Value).toArray = args at htb hret ⊢
  clear hAe
  suffices hgo : ∀ (H : Heap) (locs : List Loc), va_P E.1 bp_cl (bm_W E m) H → va_D A (bm_W E m) → va_S A s.heap H locs → W p l e ({ frames := 0, cells := 0, slots := 0, locals := 0 }) s mt args below meth c H locs 0 0 Q (F0 mt 0 ls []) from hgo _ _ hP hD hS
  clear hP hD hS
  intro H locs hP hD hS
  unfold bm_M_corner at h
  refine lv_bipush (v := 64) hx hb (dt_bm_M_corner 0 rfl) (by decide) ?_
  refine lv_iload_n hx hb (dt_bm_M_corner 1 rfl) rfl (lv_at hl 0 rfl) ?_
  refine lv_iconst (v := 4) hx hb (dt_bm_M_corner 2 rfl) (by decide) ?_
  refine lv_idiv hx hb (dt_bm_M_corner 3 rfl) (by decide) ?_
  refine lv_imul hx hb (dt_bm_M_corner 4 rfl) ?_
  refine lv_iconst (v := 4) hx hb (dt_bm_M_corner 5 rfl) (by decide) ?_
  refine lv_iload_n hx hb (dt_bm_M_corner 6 rfl) rfl (lv_at hl 0 rfl) ?_
  refine lv_iconst (v := 4) hx hb (dt_bm_M_corner 7 rfl) (by decide) ?_
  refine lv_irem hx hb (dt_bm_M_corner 8 rfl) (by decide) ?_
  refine lv_imul hx hb (dt_bm_M_corner 9 rfl) ?_
  refine lv_iadd hx hb (dt_bm_M_corner 10 rfl) ?_
  exact hret _ _ _ _ _ _ h hP hD hS (dt_bm_M_corner 11 rfl)
set_option maxHeartbeats 4000000 in
set_option maxRecDepth 100000 in
theorem wbm_M_intraBlock (l : Launch) (E : bm_E) (N : Nat) (a1 : Int32) (m : bp_M) (sz : Nat) (mr : bp_M)  (h : bm_M_intraBlock N a1 m = some mr) : Met l y_bm_M_intraBlock (Cond.code y_bm_M_intraBlock prog_13_method_23_code 11 none :: bp_tb) ({ frames := 4, cells := 0, slots := 0, locals := 99 }) (bm_Pc E m sz [.ref (E.2.1 0), .int a1]) (bm_Qv E m sz mr) 0 0 (va_A (bm_W E m) sz) := by
  refine Met.ofW (cc := prog_13_method_23_code) (maxL := 11) (ret := none) (by decide) rfl ?_
  intro p e s mt args below meth c s₁ B hml hv
  obtain ⟨rfl, hsz, hP, hK, hD0, hst⟩ := hv
  have hx := B.exec
  have hb := B.bytes
  have hr := B.returns
  have htb : ∀ w ∈ bp_tb, w.before _ s = true := fun w hw => atoms_spec (ws := Cond.code y_bm_M_intraBlock prog_13_method_23_code 11 none :: bp_tb) B.pre w (List.mem_cons_of_mem _ hw)
  have hown : s.vm.findClass "BlockPicturesModel" = some mt.cls := findClass_of_methodNamed B.named
  have hlocks := B.notSynchronized
  subst hsz
  have hD := hD0.self (sz := s.heap.size)
  generalize hAe : va_A (bm_W E m) s.heap.size = A at hD hst ⊢
  have hsub : ∀ (u : bp_M) (z q : Nat), s.heap.size ≤ z → va_A (bm_W E u) z q → A q := bm_sub hAe
  have hS : va_S A s.heap s.heap [] := va_S.rf
  have hl := lv_entry ([.ref (E.2.1 0), .int a1]) (n := 11) (Nat.le_of_ble_eq_true rfl)
  rw [lg_entry_eq]
  generalize (lg_sl ([.ref (E.2.1 0), .int a1]) ++ List.replicate (11 - (lg_sl ([.ref (E.2.1 0), .int a1])).length) Slot.unset).toArray = ls at hl ⊢
  have hl : lv_has ls 11 [(0, .ref (E.2.1 0)), (1, .int a1)] := hl
  refine bm_keyV (R := ({ frames := 4, cells := 0, slots := 0, locals := 99 })) E hx hb hr hlocks hK hAe (fun Q hret => ?_)
  clear B hD0 hlocks hr
  generalize ([.ref (E.2.1 0), .int a1] : List Value).toArray = args at htb hret ⊢
  clear hAe
  have hL335 : ∀ (m : bp_M), bm_M_intraBlock_L335 N a1 m = some mr → ∀ (ls : Array Slot) (H : Heap) (locs : List Loc), lv_has ls 11 [] → va_P E.1 bp_cl (bm_W E m) H → va_D A (bm_W E m) → va_S A s.heap H locs → W p l e ({ frames := 4, cells := 0, slots := 0, locals := 99 }) s mt args below meth c H locs 0 0 Q (F0 mt 335 ls []) := by
    intro m h ls H locs hl hP hD hS
    rw [bm_M_intraBlock_L335] at h
    exact hret _ _ _ _ _ h hP hD hS (dt_bm_M_intraBlock 188 rfl)
  have hL201 : ∀ (n201 : Nat) (x2 : Int32) (x5 : Int32) (x7 : Int32) (x8 : Int32) (m : bp_M), bm_M_intraBlock_L201 N a1 n201 x2 x5 x7 x8 m = some mr → ∀ (ls : Array Slot) (H : Heap) (locs : List Loc), lv_has ls 11 [(0, .ref (E.2.1 0)), (2, .int x2), (5, .int x5), (7, .int x7), (8, .int x8)] → va_P E.1 bp_cl (bm_W E m) H → va_D A (bm_W E m) → va_S A s.heap H locs → W p l e ({ frames := 4, cells := 0, slots := 0, locals := 99 }) s mt args below meth c H locs 0 0 Q (F0 mt 201 ls []) := by
    intro n201
    induction n201 with
    | zero =>
      intro x2 x5 x7 x8 m h ls H locs hl hP hD hS
      rw [bm_M_intraBlock_L201] at h
      cases h
    | succ n201 ih201 =>
      have hL329 : ∀ (x2 : Int32) (x5 : Int32) (x7 : Int32) (x8 : Int32) (m : bp_M), bm_M_intraBlock_L329 (bm_M_intraBlock_L201 N a1 n201) N a1 x2 x5 x7 x8 m = some mr → ∀ (ls : Array Slot) (H : Heap) (locs : List Loc), lv_has ls 11 [(0, .ref (E.2.1 0)), (2, .int x2), (5, .int x5), (7, .int x7), (8, .int x8)] → va_P E.1 bp_cl (bm_W E m) H → va_D A (bm_W E m) → va_S A s.heap H locs → W p l e ({ frames := 4, cells := 0, slots := 0, locals := 99 }) s mt args below meth c H locs 0 0 Q (F0 mt 329 ls []) := by
        intro x2 x5 x7 x8 m h ls H locs hl hP hD hS
        rw [bm_M_intraBlock_L329] at h
        obtain ⟨y1, ey1⟩ : ∃ z : Int32, z = x8 + 1 := ⟨_, rfl⟩
        replace h := bp_nI_s h ey1
        refine lv_iinc (k := 4) (v := y1) hx hb (dt_bm_M_intraBlock 186 rfl) hl rfl (by rw [ey1]; rfl) (Nat.le_of_ble_eq_true rfl) rfl (fun ls hl => ?_)
        have hl : lv_has ls 11 [(8, .int y1), (0, .ref (E.2.1 0)), (2, .int x2), (5, .int x5), (7, .int x7)] := hl
        refine lv_goto (tgt := 201) hx hb (dt_bm_M_intraBlock 187 rfl) (by decide) ?_
        exact ih201 _ _ _ _ _ h ls H locs (lv_sub hl [1, 2, 3, 4, 0] rfl) hP hD hS
      have hL302 : ∀ (x2 : Int32) (x5 : Int32) (x7 : Int32) (x8 : Int32) (x9 : Int32) (s0 : Int32) (m : bp_M), bm_M_intraBlock_L302 (bm_M_intraBlock_L201 N a1 n201) N a1 x2 x5 x7 x8 x9 s0 m = some mr → ∀ (ls : Array Slot) (H : Heap) (locs : List Loc), lv_has ls 11 [(0, .ref (E.2.1 0)), (2, .int x2), (5, .int x5), (7, .int x7), (8, .int x8), (9, .int x9)] → va_P E.1 bp_cl (bm_W E m) H → va_D A (bm_W E m) → va_S A s.heap H locs → W p l e ({ frames := 4, cells := 0, slots := 0, locals := 99 }) s mt args below meth c H locs 0 0 Q (F0 mt 302 ls [.int s0]) := by
        intro x2 x5 x7 x8 x9 s0 m h ls H locs hl hP hD hS
        rw [bm_M_intraBlock_L302] at h
        refine lv_istore hx hb (dt_bm_M_intraBlock 170 rfl) hl (Nat.le_of_ble_eq_true rfl) rfl (fun ls hl => ?_)
        have hl : lv_has ls 11 [(10, .int s0), (0, .ref (E.2.1 0)), (2, .int x2), (5, .int x5), (7, .int x7), (8, .int x8), (9, .int x9)] := hl
        refine lv_aload_n hx hb (dt_bm_M_intraBlock 171 rfl) rfl (lv_at hl 1 rfl) ?_
        refine va_get (D := E.1) (ci := 10) (v := .ref (E.2.1 5)) (C := "BlockPicturesModel") (T := bF_M) (N := 48) hx hb htb bm_in_M hown hK hP 0 (bm_gM E m) rfl 23 (by decide) (htb _ tw_791) (fun _ h9 => h9) rfl (dt_bm_M_intraBlock 172 rfl) ?_
        refine lv_iload hx hb (dt_bm_M_intraBlock 173 rfl) (lv_at hl 6 rfl) ?_
        refine lv_iload hx hb (dt_bm_M_intraBlock 174 rfl) (lv_at hl 0 rfl) ?_
        refine lv_aload_n hx hb (dt_bm_M_intraBlock 175 rfl) rfl (lv_at hl 1 rfl) ?_
        refine lv_iload hx hb (dt_bm_M_intraBlock 176 rfl) (lv_at hl 5 rfl) ?_
        refine lv_iconst (v := 4) hx hb (dt_bm_M_intraBlock 177 rfl) (by decide) ?_
        refine lv_idiv hx hb (dt_bm_M_intraBlock 178 rfl) (by decide) ?_
        refine lv_iload hx hb (dt_bm_M_intraBlock 179 rfl) (lv_at hl 5 rfl) ?_
        refine lv_iconst (v := 4) hx hb (dt_bm_M_intraBlock 180 rfl) (by decide) ?_
        refine lv_irem hx hb (dt_bm_M_intraBlock 181 rfl) (by decide) ?_
        obtain ⟨z2, m1, hm1, h⟩ := bp_cI_s h
        refine bm_callI E hsub hS (va_runV (As := [.int (x8 / 4 : Int32), .int (x8 - x8 / 4 * 4 : Int32)]) (rest := [.int s0, .int x9, .ref (E.2.1 5)]) ⟨hx, hb, hml, hown, htb⟩ (wbm_M_added l E N (x8 / 4 : Int32) (x8 - x8 / 4 * 4 : Int32) m H.size z2 m1 hm1) (cwV 2 htb (bp_goodV tw_1005 tw_1007 tw_52 tw_79 tw_1008) rfl rfl rfl ⟨rfl, hd_bm_M_added⟩ ⟨Nat.le_of_ble_eq_true rfl, Nat.le_of_ble_eq_true rfl⟩) (bm_preV E hsub hst hK hP hD hS (bm_gM E m) rfl rfl _) rfl rfl hl.1 rfl (lv_room (Nat.le_of_ble_eq_true rfl)) (dt_bm_M_intraBlock 182 rfl) ⟨Nat.zero_le _, Nat.zero_le _⟩) (fun H locs hP hD hS => ?_)
        refine lv_iadd hx hb (dt_bm_M_intraBlock 183 rfl) ?_
        obtain ⟨z4, m3, hm3, h⟩ := bp_cI_s h
        refine bm_callI E hsub hS (va_runS (As := [.int (s0 + z2 : Int32)]) (rest := [.int x9, .ref (E.2.1 5)]) ⟨hx, hb, hml, hown, htb⟩ (wbm_M_limit l E N (s0 + z2 : Int32) m1 H.size z4 m3 hm3) (va_cwS 1 htb (bp_goodW tw_1002 tw_1003 tw_79 tw_1004) rfl rfl rfl hd_bm_M_limit ⟨Nat.le_of_ble_eq_true rfl, Nat.le_of_ble_eq_true rfl⟩) (bm_preS E hsub hst hK hP hD hS _) rfl rfl hl.1 rfl (lv_room (Nat.le_of_ble_eq_true rfl)) (dt_bm_M_intraBlock 184 rfl) ⟨Nat.zero_le _, Nat.zero_le _⟩) (fun H locs hP hD hS => ?_)
        obtain ⟨hg5, h⟩ := bp_gi_s h
        refine bm_sI E hx hb hK hP hD hS (bm_ga5 E) hg5 (dt_bm_M_intraBlock 185 rfl) (fun m6 em6 H locs hP hD hS => ?_)
        replace h := bp_nM_s h em6
        exact hL329 _ _ _ _ _ h ls H locs (lv_sub hl [1, 2, 3, 4, 5] rfl) hP hD hS
      intro x2 x5 x7 x8 m h ls H locs hl hP hD hS
      rw [bm_M_intraBlock_L201] at h
      refine lv_iload hx hb (dt_bm_M_intraBlock 111 rfl) (lv_at hl 4 rfl) ?_
      refine lv_bipush (v := 16) hx hb (dt_bm_M_intraBlock 112 rfl) (by decide) ?_
      refine lv_icmp_ge (tgt := 335) hx hb (dt_bm_M_intraBlock 113 rfl) (by decide) (fun hc => ?_) (fun hc => ?_)
      · replace h := (if_pos hc).symm.trans h
        exact hL335 _ h ls H locs (lv_sub hl [] rfl) hP hD hS
      · replace h := (if_neg hc).symm.trans h
        refine lv_aload_n hx hb (dt_bm_M_intraBlock 114 rfl) rfl (lv_at hl 0 rfl) ?_
        refine va_get (D := E.1) (ci := 10) (v := .int (m.1 0 12)) (C := "BlockPicturesModel") (T := bF_M) (N := 48) hx hb htb bm_in_M hown hK hP 0 (bm_gM E m) rfl 12 (by decide) (htb _ tw_780) (fun _ h9 => h9) rfl (dt_bm_M_intraBlock 115 rfl) ?_
        refine lv_if_ne (tgt := 335) hx hb (dt_bm_M_intraBlock 116 rfl) (by decide) (fun hc => ?_) (fun hc => ?_)
        · replace h := (if_pos hc).symm.trans h
          exact hL335 _ h ls H locs (lv_sub hl [] rfl) hP hD hS
        · replace h := (if_neg (fun hn => hn hc)).symm.trans h
          refine lv_iload hx hb (dt_bm_M_intraBlock 117 rfl) (lv_at hl 2 rfl) ?_
          refine lv_bipush (v := 16) hx hb (dt_bm_M_intraBlock 118 rfl) (by decide) ?_
          refine lv_iload hx hb (dt_bm_M_intraBlock 119 rfl) (lv_at hl 4 rfl) ?_
          refine lv_iconst (v := 4) hx hb (dt_bm_M_intraBlock 120 rfl) (by decide) ?_
          refine lv_idiv hx hb (dt_bm_M_intraBlock 121 rfl) (by decide) ?_
          refine lv_imul hx hb (dt_bm_M_intraBlock 122 rfl) ?_
          refine lv_iadd hx hb (dt_bm_M_intraBlock 123 rfl) ?_
          refine lv_iload hx hb (dt_bm_M_intraBlock 124 rfl) (lv_at hl 4 rfl) ?_
          refine lv_iconst (v := 4) hx hb (dt_bm_M_intraBlock 125 rfl) (by decide) ?_
          refine lv_irem hx hb (dt_bm_M_intraBlock 126 rfl) (by decide) ?_
          refine lv_iadd hx hb (dt_bm_M_intraBlock 127 rfl) ?_
          refine lv_topi (fun y1 ey1 => ?_)
          replace h := bp_nI_s h ey1
          refine lv_istore hx hb (dt_bm_M_intraBlock 128 rfl) hl (Nat.le_of_ble_eq_true rfl) rfl (fun ls hl => ?_)
          have hl : lv_has ls 11 [(9, .int y1), (0, .ref (E.2.1 0)), (2, .int x2), (5, .int x5), (7, .int x7), (8, .int x8)] := hl
          refine lv_iload_n hx hb (dt_bm_M_intraBlock 129 rfl) rfl (lv_at hl 2 rfl) ?_
          refine lv_if_ne (tgt := 252) hx hb (dt_bm_M_intraBlock 130 rfl) (by decide) (fun hc => ?_) (fun hc => ?_)
          · replace h := (if_pos hc).symm.trans h
            refine lv_iload_n hx hb (dt_bm_M_intraBlock 139 rfl) rfl (lv_at hl 2 rfl) ?_
            refine lv_iconst (v := 1) hx hb (dt_bm_M_intraBlock 140 rfl) (by decide) ?_
            refine lv_icmp_ne (tgt := 262) hx hb (dt_bm_M_intraBlock 141 rfl) (by decide) (fun hc => ?_) (fun hc => ?_)
            · replace h := (if_pos hc).symm.trans h
              refine lv_iload_n hx hb (dt_bm_M_intraBlock 144 rfl) rfl (lv_at hl 2 rfl) ?_
              refine lv_iconst (v := 2) hx hb (dt_bm_M_intraBlock 145 rfl) (by decide) ?_
              refine lv_icmp_ne (tgt := 285) hx hb (dt_bm_M_intraBlock 146 rfl) (by decide) (fun hc => ?_) (fun hc => ?_)
              · replace h := (if_pos hc).symm.trans h
                refine lv_aload_n hx hb (dt_bm_M_intraBlock 158 rfl) rfl (lv_at hl 1 rfl) ?_
                refine va_get (D := E.1) (ci := 10) (v := .ref (E.2.1 5)) (C := "BlockPicturesModel") (T := bF_M) (N := 48) hx hb htb bm_in_M hown hK hP 0 (bm_gM E m) rfl 23 (by decide) (htb _ tw_791) (fun _ h9 => h9) rfl (dt_bm_M_intraBlock 159 rfl) ?_
                refine lv_iload hx hb (dt_bm_M_intraBlock 160 rfl) (lv_at hl 3 rfl) ?_
                refine lv_iconst (v := 1) hx hb (dt_bm_M_intraBlock 161 rfl) (by decide) ?_
                refine lv_isub hx hb (dt_bm_M_intraBlock 162 rfl) ?_
                refine lv_bipush (v := 16) hx hb (dt_bm_M_intraBlock 163 rfl) (by decide) ?_
                refine lv_iload hx hb (dt_bm_M_intraBlock 164 rfl) (lv_at hl 5 rfl) ?_
                refine lv_iconst (v := 4) hx hb (dt_bm_M_intraBlock 165 rfl) (by decide) ?_
                refine lv_idiv hx hb (dt_bm_M_intraBlock 166 rfl) (by decide) ?_
                refine lv_imul hx hb (dt_bm_M_intraBlock 167 rfl) ?_
                refine lv_iadd hx hb (dt_bm_M_intraBlock 168 rfl) ?_
                obtain ⟨hg2, h⟩ := bp_gi_s h
                refine bm_lI E hx hb hK hP (bm_ga5 E) hg2 (dt_bm_M_intraBlock 169 rfl) ?_
                exact hL302 _ _ _ _ _ _ _ h ls H locs (lv_sub hl [1, 2, 3, 4, 5, 0] rfl) hP hD hS
              · replace h := (if_neg (fun hn => hn hc)).symm.trans h
                refine lv_aload_n hx hb (dt_bm_M_intraBlock 147 rfl) rfl (lv_at hl 1 rfl) ?_
                refine va_get (D := E.1) (ci := 10) (v := .ref (E.2.1 5)) (C := "BlockPicturesModel") (T := bF_M) (N := 48) hx hb htb bm_in_M hown hK hP 0 (bm_gM E m) rfl 23 (by decide) (htb _ tw_791) (fun _ h9 => h9) rfl (dt_bm_M_intraBlock 148 rfl) ?_
                refine lv_iload hx hb (dt_bm_M_intraBlock 149 rfl) (lv_at hl 3 rfl) ?_
                refine lv_bipush (v := 16) hx hb (dt_bm_M_intraBlock 150 rfl) (by decide) ?_
                refine lv_isub hx hb (dt_bm_M_intraBlock 151 rfl) ?_
                refine lv_iload hx hb (dt_bm_M_intraBlock 152 rfl) (lv_at hl 5 rfl) ?_
                refine lv_iconst (v := 4) hx hb (dt_bm_M_intraBlock 153 rfl) (by decide) ?_
                refine lv_irem hx hb (dt_bm_M_intraBlock 154 rfl) (by decide) ?_
                refine lv_iadd hx hb (dt_bm_M_intraBlock 155 rfl) ?_
                obtain ⟨hg3, h⟩ := bp_gi_s h
                refine bm_lI E hx hb hK hP (bm_ga5 E) hg3 (dt_bm_M_intraBlock 156 rfl) ?_
                refine lv_goto (tgt := 302) hx hb (dt_bm_M_intraBlock 157 rfl) (by decide) ?_
                exact hL302 _ _ _ _ _ _ _ h ls H locs (lv_sub hl [1, 2, 3, 4, 5, 0] rfl) hP hD hS
            · replace h := (if_neg (fun hn => hn hc)).symm.trans h
              refine lv_iload hx hb (dt_bm_M_intraBlock 142 rfl) (lv_at hl 4 rfl) ?_
              refine lv_goto (tgt := 302) hx hb (dt_bm_M_intraBlock 143 rfl) (by decide) ?_
              exact hL302 _ _ _ _ _ _ _ h ls H locs (lv_sub hl [1, 2, 3, 4, 5, 0] rfl) hP hD hS
          · replace h := (if_neg (fun hn => hn hc)).symm.trans h
            refine lv_aload_n hx hb (dt_bm_M_intraBlock 131 rfl) rfl (lv_at hl 1 rfl) ?_
            refine va_get (D := E.1) (ci := 10) (v := .ref (E.2.1 5)) (C := "BlockPicturesModel") (T := bF_M) (N := 48) hx hb htb bm_in_M hown hK hP 0 (bm_gM E m) rfl 23 (by decide) (htb _ tw_791) (fun _ h9 => h9) rfl (dt_bm_M_intraBlock 132 rfl) ?_
            refine lv_iload hx hb (dt_bm_M_intraBlock 133 rfl) (lv_at hl 0 rfl) ?_
            refine lv_aload_n hx hb (dt_bm_M_intraBlock 134 rfl) rfl (lv_at hl 1 rfl) ?_
            refine lv_bipush (v := 8) hx hb (dt_bm_M_intraBlock 135 rfl) (by decide) ?_
            obtain ⟨z5, m4, hm4, h⟩ := bp_cI_s h
            refine bm_callI E hsub hS (va_runV (As := [.int 8]) (rest := [.int y1, .ref (E.2.1 5)]) ⟨hx, hb, hml, hown, htb⟩ (wbm_M_bits l E N 8 m H.size z5 m4 hm4) (cwV 1 htb (bp_goodV tw_944 tw_946 tw_39 tw_79 tw_947) rfl rfl rfl ⟨rfl, hd_bm_M_bits⟩ ⟨Nat.le_of_ble_eq_true rfl, Nat.le_of_ble_eq_true rfl⟩) (bm_preV E hsub hst hK hP hD hS (bm_gM E m) rfl rfl _) rfl rfl hl.1 rfl (lv_room (Nat.le_of_ble_eq_true rfl)) (dt_bm_M_intraBlock 136 rfl) ⟨Nat.zero_le _, Nat.zero_le _⟩) (fun H locs hP hD hS => ?_)
            obtain ⟨hg6, h⟩ := bp_gi_s h
            refine bm_sI E hx hb hK hP hD hS (bm_ga5 E) hg6 (dt_bm_M_intraBlock 137 rfl) (fun m7 em7 H locs hP hD hS => ?_)
            replace h := bp_nM_s h em7
            refine lv_goto (tgt := 329) hx hb (dt_bm_M_intraBlock 138 rfl) (by decide) ?_
            exact hL329 _ _ _ _ _ h ls H locs (lv_sub hl [1, 2, 3, 4, 5] rfl) hP hD hS
  have hL196 : ∀ (x2 : Int32) (x5 : Int32) (s0 : Int32) (m : bp_M), bm_M_intraBlock_L196 N a1 x2 x5 s0 m = some mr → ∀ (ls : Array Slot) (H : Heap) (locs : List Loc), lv_has ls 11 [(0, .ref (E.2.1 0)), (2, .int x2), (5, .int x5)] → va_P E.1 bp_cl (bm_W E m) H → va_D A (bm_W E m) → va_S A s.heap H locs → W p l e ({ frames := 4, cells := 0, slots := 0, locals := 99 }) s mt args below meth c H locs 0 0 Q (F0 mt 196 ls [.int s0]) := by
    intro x2 x5 s0 m h ls H locs hl hP hD hS
    rw [bm_M_intraBlock_L196] at h
    refine lv_istore hx hb (dt_bm_M_intraBlock 108 rfl) hl (Nat.le_of_ble_eq_true rfl) rfl (fun ls hl => ?_)
    have hl : lv_has ls 11 [(7, .int s0), (0, .ref (E.2.1 0)), (2, .int x2), (5, .int x5)] := hl
    refine lv_iconst (v := 0) hx hb (dt_bm_M_intraBlock 109 rfl) (by decide) ?_
    refine lv_istore hx hb (dt_bm_M_intraBlock 110 rfl) hl (Nat.le_of_ble_eq_true rfl) rfl (fun ls hl => ?_)
    have hl : lv_has ls 11 [(8, .int 0), (7, .int s0), (0, .ref (E.2.1 0)), (2, .int x2), (5, .int x5)] := hl
    exact hL201 _ _ _ _ _ _ h ls H locs (lv_sub hl [2, 3, 4, 1, 0] rfl) hP hD hS
  have hL184 : ∀ (x2 : Int32) (x5 : Int32) (x6 : Int32) (m : bp_M), bm_M_intraBlock_L184 N a1 x2 x5 x6 m = some mr → ∀ (ls : Array Slot) (H : Heap) (locs : List Loc), lv_has ls 11 [(0, .ref (E.2.1 0)), (2, .int x2), (5, .int x5), (6, .int x6)] → va_P E.1 bp_cl (bm_W E m) H → va_D A (bm_W E m) → va_S A s.heap H locs → W p l e ({ frames := 4, cells := 0, slots := 0, locals := 99 }) s mt args below meth c H locs 0 0 Q (F0 mt 184 ls []) := by
    intro x2 x5 x6 m h ls H locs hl hP hD hS
    rw [bm_M_intraBlock_L184] at h
    refine lv_iload hx hb (dt_bm_M_intraBlock 101 rfl) (lv_at hl 3 rfl) ?_
    refine lv_iconst (v := 2) hx hb (dt_bm_M_intraBlock 102 rfl) (by decide) ?_
    refine lv_iadd hx hb (dt_bm_M_intraBlock 103 rfl) ?_
    refine lv_iconst (v := 2) hx hb (dt_bm_M_intraBlock 104 rfl) (by decide) ?_
    refine lv_ishr hx hb (dt_bm_M_intraBlock 105 rfl) ?_
    refine lv_goto (tgt := 196) hx hb (dt_bm_M_intraBlock 106 rfl) (by decide) ?_
    exact hL196 _ _ _ _ h ls H locs (lv_sub hl [0, 1, 2] rfl) hP hD hS
  have hL175 : ∀ (x2 : Int32) (x3 : Int32) (x4 : Int32) (x5 : Int32) (x6 : Int32) (m : bp_M), bm_M_intraBlock_L175 N a1 x2 x3 x4 x5 x6 m = some mr → ∀ (ls : Array Slot) (H : Heap) (locs : List Loc), lv_has ls 11 [(0, .ref (E.2.1 0)), (2, .int x2), (3, .int x3), (4, .int x4), (5, .int x5), (6, .int x6)] → va_P E.1 bp_cl (bm_W E m) H → va_D A (bm_W E m) → va_S A s.heap H locs → W p l e ({ frames := 4, cells := 0, slots := 0, locals := 99 }) s mt args below meth c H locs 0 0 Q (F0 mt 175 ls []) := by
    intro x2 x3 x4 x5 x6 m h ls H locs hl hP hD hS
    rw [bm_M_intraBlock_L175] at h
    refine lv_iload_n hx hb (dt_bm_M_intraBlock 97 rfl) rfl (lv_at hl 2 rfl) ?_
    refine lv_if_ne (tgt := 184) hx hb (dt_bm_M_intraBlock 98 rfl) (by decide) (fun hc => ?_) (fun hc => ?_)
    · replace h := (if_pos hc).symm.trans h
      exact hL184 _ _ _ _ h ls H locs (lv_sub hl [0, 1, 4, 5] rfl) hP hD hS
    · replace h := (if_neg (fun hn => hn hc)).symm.trans h
      refine lv_iload hx hb (dt_bm_M_intraBlock 99 rfl) (lv_at hl 3 rfl) ?_
      refine lv_if_eq (tgt := 193) hx hb (dt_bm_M_intraBlock 100 rfl) (by decide) (fun hc => ?_) (fun hc => ?_)
      · replace h := (if_pos hc).symm.trans h
        refine lv_sipush (v := 128) hx hb (dt_bm_M_intraBlock 107 rfl) (by decide) ?_
        exact hL196 _ _ _ _ h ls H locs (lv_sub hl [0, 1, 4] rfl) hP hD hS
      · replace h := (if_neg hc).symm.trans h
        exact hL184 _ _ _ _ h ls H locs (lv_sub hl [0, 1, 4, 5] rfl) hP hD hS
  have hL157 : ∀ (x2 : Int32) (x3 : Int32) (x4 : Int32) (x5 : Int32) (x6 : Int32) (m : bp_M), bm_M_intraBlock_L157 N a1 x2 x3 x4 x5 x6 m = some mr → ∀ (ls : Array Slot) (H : Heap) (locs : List Loc), lv_has ls 11 [(0, .ref (E.2.1 0)), (2, .int x2), (3, .int x3), (4, .int x4), (5, .int x5), (6, .int x6)] → va_P E.1 bp_cl (bm_W E m) H → va_D A (bm_W E m) → va_S A s.heap H locs → W p l e ({ frames := 4, cells := 0, slots := 0, locals := 99 }) s mt args below meth c H locs 0 0 Q (F0 mt 157 ls []) := by
    intro x2 x3 x4 x5 x6 m h ls H locs hl hP hD hS
    rw [bm_M_intraBlock_L157] at h
    refine lv_iload_n hx hb (dt_bm_M_intraBlock 87 rfl) rfl (lv_at hl 2 rfl) ?_
    refine lv_if_eq (tgt := 175) hx hb (dt_bm_M_intraBlock 88 rfl) (by decide) (fun hc => ?_) (fun hc => ?_)
    · replace h := (if_pos hc).symm.trans h
      exact hL175 _ _ _ _ _ _ h ls H locs (lv_sub hl [0, 1, 2, 3, 4, 5] rfl) hP hD hS
    · replace h := (if_neg hc).symm.trans h
      refine lv_iload hx hb (dt_bm_M_intraBlock 89 rfl) (lv_at hl 3 rfl) ?_
      refine lv_if_eq (tgt := 175) hx hb (dt_bm_M_intraBlock 90 rfl) (by decide) (fun hc => ?_) (fun hc => ?_)
      · replace h := (if_pos hc).symm.trans h
        exact hL175 _ _ _ _ _ _ h ls H locs (lv_sub hl [0, 1, 2, 3, 4, 5] rfl) hP hD hS
      · replace h := (if_neg hc).symm.trans h
        refine lv_iload hx hb (dt_bm_M_intraBlock 91 rfl) (lv_at hl 5 rfl) ?_
        refine lv_iconst (v := 4) hx hb (dt_bm_M_intraBlock 92 rfl) (by decide) ?_
        refine lv_iadd hx hb (dt_bm_M_intraBlock 93 rfl) ?_
        refine lv_iconst (v := 3) hx hb (dt_bm_M_intraBlock 94 rfl) (by decide) ?_
        refine lv_ishr hx hb (dt_bm_M_intraBlock 95 rfl) ?_
        refine lv_goto (tgt := 196) hx hb (dt_bm_M_intraBlock 96 rfl) (by decide) ?_
        exact hL196 _ _ _ _ h ls H locs (lv_sub hl [0, 1, 4] rfl) hP hD hS
  have hL90 : ∀ (n90 : Nat) (x2 : Int32) (x3 : Int32) (x4 : Int32) (x5 : Int32) (x6 : Int32) (x7 : Int32) (m : bp_M), bm_M_intraBlock_L90 N a1 n90 x2 x3 x4 x5 x6 x7 m = some mr → ∀ (ls : Array Slot) (H : Heap) (locs : List Loc), lv_has ls 11 [(0, .ref (E.2.1 0)), (2, .int x2), (3, .int x3), (4, .int x4), (5, .int x5), (6, .int x6), (7, .int x7)] → va_P E.1 bp_cl (bm_W E m) H → va_D A (bm_W E m) → va_S A s.heap H locs → W p l e ({ frames := 4, cells := 0, slots := 0, locals := 99 }) s mt args below meth c H locs 0 0 Q (F0 mt 90 ls []) := by
    intro n90
    induction n90 with
    | zero =>
      intro x2 x3 x4 x5 x6 x7 m h ls H locs hl hP hD hS
      rw [bm_M_intraBlock_L90] at h
      cases h
    | succ n90 ih90 =>
      have hL148 : ∀ (x2 : Int32) (x3 : Int32) (x4 : Int32) (x5 : Int32) (x7 : Int32) (s0 : Int32) (s1 : Int32) (m : bp_M), bm_M_intraBlock_L148 (bm_M_intraBlock_L90 N a1 n90) N a1 x2 x3 x4 x5 x7 s0 s1 m = some mr → ∀ (ls : Array Slot) (H : Heap) (locs : List Loc), lv_has ls 11 [(0, .ref (E.2.1 0)), (2, .int x2), (3, .int x3), (4, .int x4), (5, .int x5), (7, .int x7)] → va_P E.1 bp_cl (bm_W E m) H → va_D A (bm_W E m) → va_S A s.heap H locs → W p l e ({ frames := 4, cells := 0, slots := 0, locals := 99 }) s mt args below meth c H locs 0 0 Q (F0 mt 148 ls [.int s0, .int s1]) := by
        intro x2 x3 x4 x5 x7 s0 s1 m h ls H locs hl hP hD hS
        rw [bm_M_intraBlock_L148] at h
        refine lv_iadd hx hb (dt_bm_M_intraBlock 83 rfl) ?_
        refine lv_topi (fun y1 ey1 => ?_)
        replace h := bp_nI_s h ey1
        refine lv_istore hx hb (dt_bm_M_intraBlock 84 rfl) hl (Nat.le_of_ble_eq_true rfl) rfl (fun ls hl => ?_)
        have hl : lv_has ls 11 [(6, .int y1), (0, .ref (E.2.1 0)), (2, .int x2), (3, .int x3), (4, .int x4), (5, .int x5), (7, .int x7)] := hl
        obtain ⟨y2, ey2⟩ : ∃ z : Int32, z = x7 + 1 := ⟨_, rfl⟩
        replace h := bp_nI_s h ey2
        refine lv_iinc (k := 6) (v := y2) hx hb (dt_bm_M_intraBlock 85 rfl) hl rfl (by rw [ey2]; rfl) (Nat.le_of_ble_eq_true rfl) rfl (fun ls hl => ?_)
        have hl : lv_has ls 11 [(7, .int y2), (6, .int y1), (0, .ref (E.2.1 0)), (2, .int x2), (3, .int x3), (4, .int x4), (5, .int x5)] := hl
        refine lv_goto (tgt := 90) hx hb (dt_bm_M_intraBlock 86 rfl) (by decide) ?_
        exact ih90 _ _ _ _ _ _ _ h ls H locs (lv_sub hl [2, 3, 4, 5, 6, 1, 0] rfl) hP hD hS
      have hL119 : ∀ (x2 : Int32) (x3 : Int32) (x4 : Int32) (x5 : Int32) (x7 : Int32) (s0 : Int32) (s1 : Int32) (m : bp_M), bm_M_intraBlock_L119 (bm_M_intraBlock_L90 N a1 n90) N a1 x2 x3 x4 x5 x7 s0 s1 m = some mr → ∀ (ls : Array Slot) (H : Heap) (locs : List Loc), lv_has ls 11 [(0, .ref (E.2.1 0)), (2, .int x2), (3, .int x3), (4, .int x4), (5, .int x5), (7, .int x7)] → va_P E.1 bp_cl (bm_W E m) H → va_D A (bm_W E m) → va_S A s.heap H locs → W p l e ({ frames := 4, cells := 0, slots := 0, locals := 99 }) s mt args below meth c H locs 0 0 Q (F0 mt 119 ls [.int s0, .int s1]) := by
        intro x2 x3 x4 x5 x7 s0 s1 m h ls H locs hl hP hD hS
        rw [bm_M_intraBlock_L119] at h
        refine lv_iadd hx hb (dt_bm_M_intraBlock 66 rfl) ?_
        refine lv_topi (fun y1 ey1 => ?_)
        replace h := bp_nI_s h ey1
        refine lv_istore hx hb (dt_bm_M_intraBlock 67 rfl) hl (Nat.le_of_ble_eq_true rfl) rfl (fun ls hl => ?_)
        have hl : lv_has ls 11 [(6, .int y1), (0, .ref (E.2.1 0)), (2, .int x2), (3, .int x3), (4, .int x4), (5, .int x5), (7, .int x7)] := hl
        refine lv_iload hx hb (dt_bm_M_intraBlock 68 rfl) (lv_at hl 0 rfl) ?_
        refine lv_iload hx hb (dt_bm_M_intraBlock 69 rfl) (lv_at hl 4 rfl) ?_
        refine lv_if_eq (tgt := 147) hx hb (dt_bm_M_intraBlock 70 rfl) (by decide) (fun hc => ?_) (fun hc => ?_)
        · replace h := (if_pos hc).symm.trans h
          refine lv_iconst (v := 0) hx hb (dt_bm_M_intraBlock 82 rfl) (by decide) ?_
          exact hL148 _ _ _ _ _ _ _ _ h ls H locs (lv_sub hl [1, 2, 3, 4, 5, 6] rfl) hP hD hS
        · replace h := (if_neg hc).symm.trans h
          refine lv_aload_n hx hb (dt_bm_M_intraBlock 71 rfl) rfl (lv_at hl 1 rfl) ?_
          refine va_get (D := E.1) (ci := 10) (v := .ref (E.2.1 5)) (C := "BlockPicturesModel") (T := bF_M) (N := 48) hx hb htb bm_in_M hown hK hP 0 (bm_gM E m) rfl 23 (by decide) (htb _ tw_791) (fun _ h9 => h9) rfl (dt_bm_M_intraBlock 72 rfl) ?_
          refine lv_iload hx hb (dt_bm_M_intraBlock 73 rfl) (lv_at hl 5 rfl) ?_
          refine lv_iconst (v := 1) hx hb (dt_bm_M_intraBlock 74 rfl) (by decide) ?_
          refine lv_isub hx hb (dt_bm_M_intraBlock 75 rfl) ?_
          refine lv_bipush (v := 16) hx hb (dt_bm_M_intraBlock 76 rfl) (by decide) ?_
          refine lv_iload hx hb (dt_bm_M_intraBlock 77 rfl) (lv_at hl 6 rfl) ?_
          refine lv_imul hx hb (dt_bm_M_intraBlock 78 rfl) ?_
          refine lv_iadd hx hb (dt_bm_M_intraBlock 79 rfl) ?_
          obtain ⟨hg2, h⟩ := bp_gi_s h
          refine bm_lI E hx hb hK hP (bm_ga5 E) hg2 (dt_bm_M_intraBlock 80 rfl) ?_
          refine lv_goto (tgt := 148) hx hb (dt_bm_M_intraBlock 81 rfl) (by decide) ?_
          exact hL148 _ _ _ _ _ _ _ _ h ls H locs (lv_sub hl [1, 2, 3, 4, 5, 6] rfl) hP hD hS
      intro x2 x3 x4 x5 x6 x7 m h ls H locs hl hP hD hS
      rw [bm_M_intraBlock_L90] at h
      refine lv_iload hx hb (dt_bm_M_intraBlock 50 rfl) (lv_at hl 6 rfl) ?_
      refine lv_iconst (v := 4) hx hb (dt_bm_M_intraBlock 51 rfl) (by decide) ?_
      refine lv_icmp_ge (tgt := 157) hx hb (dt_bm_M_intraBlock 52 rfl) (by decide) (fun hc => ?_) (fun hc => ?_)
      · replace h := (if_pos hc).symm.trans h
        exact hL157 _ _ _ _ _ _ h ls H locs (lv_sub hl [0, 1, 2, 3, 4, 5] rfl) hP hD hS
      · replace h := (if_neg hc).symm.trans h
        refine lv_iload hx hb (dt_bm_M_intraBlock 53 rfl) (lv_at hl 5 rfl) ?_
        refine lv_iload_n hx hb (dt_bm_M_intraBlock 54 rfl) rfl (lv_at hl 2 rfl) ?_
        refine lv_if_eq (tgt := 118) hx hb (dt_bm_M_intraBlock 55 rfl) (by decide) (fun hc => ?_) (fun hc => ?_)
        · replace h := (if_pos hc).symm.trans h
          refine lv_iconst (v := 0) hx hb (dt_bm_M_intraBlock 65 rfl) (by decide) ?_
          exact hL119 _ _ _ _ _ _ _ _ h ls H locs (lv_sub hl [0, 1, 2, 3, 4, 6] rfl) hP hD hS
        · replace h := (if_neg hc).symm.trans h
          refine lv_aload_n hx hb (dt_bm_M_intraBlock 56 rfl) rfl (lv_at hl 0 rfl) ?_
          refine va_get (D := E.1) (ci := 10) (v := .ref (E.2.1 5)) (C := "BlockPicturesModel") (T := bF_M) (N := 48) hx hb htb bm_in_M hown hK hP 0 (bm_gM E m) rfl 23 (by decide) (htb _ tw_791) (fun _ h9 => h9) rfl (dt_bm_M_intraBlock 57 rfl) ?_
          refine lv_iload hx hb (dt_bm_M_intraBlock 58 rfl) (lv_at hl 4 rfl) ?_
          refine lv_bipush (v := 16) hx hb (dt_bm_M_intraBlock 59 rfl) (by decide) ?_
          refine lv_isub hx hb (dt_bm_M_intraBlock 60 rfl) ?_
          refine lv_iload hx hb (dt_bm_M_intraBlock 61 rfl) (lv_at hl 6 rfl) ?_
          refine lv_iadd hx hb (dt_bm_M_intraBlock 62 rfl) ?_
          obtain ⟨hg1, h⟩ := bp_gi_s h
          refine bm_lI E hx hb hK hP (bm_ga5 E) hg1 (dt_bm_M_intraBlock 63 rfl) ?_
          refine lv_goto (tgt := 119) hx hb (dt_bm_M_intraBlock 64 rfl) (by decide) ?_
          exact hL119 _ _ _ _ _ _ _ _ h ls H locs (lv_sub hl [0, 1, 2, 3, 4, 6] rfl) hP hD hS
  have hL78 : ∀ (x2 : Int32) (x3 : Int32) (x4 : Int32) (m : bp_M), bm_M_intraBlock_L78 N a1 x2 x3 x4 m = some mr → ∀ (ls : Array Slot) (H : Heap) (locs : List Loc), lv_has ls 11 [(0, .ref (E.2.1 0)), (1, .int a1), (2, .int x2), (3, .int x3), (4, .int x4)] → va_P E.1 bp_cl (bm_W E m) H → va_D A (bm_W E m) → va_S A s.heap H locs → W p l e ({ frames := 4, cells := 0, slots := 0, locals := 99 }) s mt args below meth c H locs 0 0 Q (F0 mt 78 ls []) := by
    intro x2 x3 x4 m h ls H locs hl hP hD hS
    rw [bm_M_intraBlock_L78] at h
    refine lv_iload_n hx hb (dt_bm_M_intraBlock 43 rfl) rfl (lv_at hl 1 rfl) ?_
    obtain ⟨z2, m1, hm1, h⟩ := bp_cI_s h
    refine bm_callI E hsub hS (va_runS (As := [.int a1]) (rest := []) ⟨hx, hb, hml, hown, htb⟩ (wbm_M_corner l E N a1 m H.size z2 m1 hm1) (va_cwS 1 htb (bp_goodW tw_1013 tw_1014 tw_79 tw_1015) rfl rfl rfl hd_bm_M_corner ⟨Nat.le_of_ble_eq_true rfl, Nat.le_of_ble_eq_true rfl⟩) (bm_preS E hsub hst hK hP hD hS _) rfl rfl hl.1 rfl (lv_room (Nat.le_of_ble_eq_true rfl)) (dt_bm_M_intraBlock 44 rfl) ⟨Nat.zero_le _, Nat.zero_le _⟩) (fun H locs hP hD hS => ?_)
    refine lv_istore hx hb (dt_bm_M_intraBlock 45 rfl) hl (Nat.le_of_ble_eq_true rfl) rfl (fun ls hl => ?_)
    have hl : lv_has ls 11 [(5, .int z2), (0, .ref (E.2.1 0)), (1, .int a1), (2, .int x2), (3, .int x3), (4, .int x4)] := hl
    refine lv_iconst (v := 0) hx hb (dt_bm_M_intraBlock 46 rfl) (by decide) ?_
    refine lv_istore hx hb (dt_bm_M_intraBlock 47 rfl) hl (Nat.le_of_ble_eq_true rfl) rfl (fun ls hl => ?_)
    have hl : lv_has ls 11 [(6, .int 0), (5, .int z2), (0, .ref (E.2.1 0)), (1, .int a1), (2, .int x2), (3, .int x3), (4, .int x4)] := hl
    refine lv_iconst (v := 0) hx hb (dt_bm_M_intraBlock 48 rfl) (by decide) ?_
    refine lv_istore hx hb (dt_bm_M_intraBlock 49 rfl) hl (Nat.le_of_ble_eq_true rfl) rfl (fun ls hl => ?_)
    have hl : lv_has ls 11 [(7, .int 0), (6, .int 0), (5, .int z2), (0, .ref (E.2.1 0)), (1, .int a1), (2, .int x2), (3, .int x3), (4, .int x4)] := hl
    exact hL90 _ _ _ _ _ _ _ _ h ls H locs (lv_sub hl [3, 5, 6, 7, 2, 1, 0] rfl) hP hD hS
  have hL69 : ∀ (x2 : Int32) (x3 : Int32) (x4 : Int32) (m : bp_M), bm_M_intraBlock_L69 N a1 x2 x3 x4 m = some mr → ∀ (ls : Array Slot) (H : Heap) (locs : List Loc), lv_has ls 11 [(0, .ref (E.2.1 0)), (1, .int a1), (2, .int x2), (3, .int x3), (4, .int x4)] → va_P E.1 bp_cl (bm_W E m) H → va_D A (bm_W E m) → va_S A s.heap H locs → W p l e ({ frames := 4, cells := 0, slots := 0, locals := 99 }) s mt args below meth c H locs 0 0 Q (F0 mt 69 ls []) := by
    intro x2 x3 x4 m h ls H locs hl hP hD hS
    rw [bm_M_intraBlock_L69] at h
    refine lv_iload_n hx hb (dt_bm_M_intraBlock 38 rfl) rfl (lv_at hl 2 rfl) ?_
    refine lv_if_le (tgt := 78) hx hb (dt_bm_M_intraBlock 39 rfl) (by decide) (fun hc => ?_) (fun hc => ?_)
    · replace h := (if_pos hc).symm.trans h
      exact hL78 _ _ _ _ h ls H locs (lv_sub hl [0, 1, 2, 3, 4] rfl) hP hD hS
    · replace h := (if_neg hc).symm.trans h
      refine lv_aload_n hx hb (dt_bm_M_intraBlock 40 rfl) rfl (lv_at hl 0 rfl) ?_
      refine lv_iload_n hx hb (dt_bm_M_intraBlock 41 rfl) rfl (lv_at hl 1 rfl) ?_
      obtain ⟨m1, hm1, h⟩ := bp_cV_s h
      refine bm_callV E hsub hS (va_runV (As := [.int a1]) (rest := []) ⟨hx, hb, hml, hown, htb⟩ (wbm_M_residual l E N a1 m H.size m1 hm1) (cwV 1 htb (bp_goodV tw_979 tw_981 tw_47 tw_79 tw_982) rfl rfl rfl ⟨rfl, hd_bm_M_residual⟩ ⟨Nat.le_of_ble_eq_true rfl, Nat.le_of_ble_eq_true rfl⟩) (bm_preV E hsub hst hK hP hD hS (bm_gM E m) rfl rfl _) rfl rfl hl.1 rfl (lv_room (Nat.le_of_ble_eq_true rfl)) (dt_bm_M_intraBlock 42 rfl) ⟨Nat.zero_le _, Nat.zero_le _⟩) (fun H locs hP hD hS => ?_)
      exact hL78 _ _ _ _ h ls H locs (lv_sub hl [0, 1, 2, 3, 4] rfl) hP hD hS
  have hL66 : ∀ (x2 : Int32) (x3 : Int32) (x4 : Int32) (s0 : Int32) (m : bp_M), bm_M_intraBlock_L66 N a1 x2 x3 x4 s0 m = some mr → ∀ (ls : Array Slot) (H : Heap) (locs : List Loc), lv_has ls 11 [(0, .ref (E.2.1 0)), (1, .int a1), (2, .int x2), (3, .int x3), (4, .int x4)] → va_P E.1 bp_cl (bm_W E m) H → va_D A (bm_W E m) → va_S A s.heap H locs → W p l e ({ frames := 4, cells := 0, slots := 0, locals := 99 }) s mt args below meth c H locs 0 0 Q (F0 mt 66 ls [.int s0, .ref (E.2.1 0)]) := by
    intro x2 x3 x4 s0 m h ls H locs hl hP hD hS
    rw [bm_M_intraBlock_L66] at h
    refine bm_pM_12 E hx hb htb hown hK hP hD hS (htb _ tw_780) (dt_bm_M_intraBlock 37 rfl) (fun m1 em1 H locs hP hD hS => ?_)
    replace h := bp_nM_s h em1
    exact hL69 _ _ _ _ h ls H locs (lv_sub hl [0, 1, 2, 3, 4] rfl) hP hD hS
  have hL49 : ∀ (x2 : Int32) (x3 : Int32) (x4 : Int32) (m : bp_M), bm_M_intraBlock_L49 N a1 x2 x3 x4 m = some mr → ∀ (ls : Array Slot) (H : Heap) (locs : List Loc), lv_has ls 11 [(0, .ref (E.2.1 0)), (1, .int a1), (2, .int x2), (3, .int x3), (4, .int x4)] → va_P E.1 bp_cl (bm_W E m) H → va_D A (bm_W E m) → va_S A s.heap H locs → W p l e ({ frames := 4, cells := 0, slots := 0, locals := 99 }) s mt args below meth c H locs 0 0 Q (F0 mt 49 ls []) := by
    intro x2 x3 x4 m h ls H locs hl hP hD hS
    rw [bm_M_intraBlock_L49] at h
    refine lv_aload_n hx hb (dt_bm_M_intraBlock 29 rfl) rfl (lv_at hl 0 rfl) ?_
    refine lv_aload_n hx hb (dt_bm_M_intraBlock 30 rfl) rfl (lv_at hl 0 rfl) ?_
    refine va_get (D := E.1) (ci := 10) (v := .int (m.1 0 12)) (C := "BlockPicturesModel") (T := bF_M) (N := 48) hx hb htb bm_in_M hown hK hP 0 (bm_gM E m) rfl 12 (by decide) (htb _ tw_780) (fun _ h9 => h9) rfl (dt_bm_M_intraBlock 31 rfl) ?_
    refine lv_if_ne (tgt := 62) hx hb (dt_bm_M_intraBlock 32 rfl) (by decide) (fun hc => ?_) (fun hc => ?_)
    · replace h := (if_pos hc).symm.trans h
      refine lv_aload_n hx hb (dt_bm_M_intraBlock 35 rfl) rfl (lv_at hl 0 rfl) ?_
      refine va_get (D := E.1) (ci := 10) (v := .int (m.1 0 12)) (C := "BlockPicturesModel") (T := bF_M) (N := 48) hx hb htb bm_in_M hown hK hP 0 (bm_gM E m) rfl 12 (by decide) (htb _ tw_780) (fun _ h9 => h9) rfl (dt_bm_M_intraBlock 36 rfl) ?_
      exact hL66 _ _ _ _ _ h ls H locs (lv_sub hl [0, 1, 2, 3, 4] rfl) hP hD hS
    · replace h := (if_neg (fun hn => hn hc)).symm.trans h
      refine lv_bipush (v := 9) hx hb (dt_bm_M_intraBlock 33 rfl) (by decide) ?_
      refine lv_goto (tgt := 66) hx hb (dt_bm_M_intraBlock 34 rfl) (by decide) ?_
      exact hL66 _ _ _ _ _ h ls H locs (lv_sub hl [0, 1, 2, 3, 4] rfl) hP hD hS
  have hL39 : ∀ (x2 : Int32) (x3 : Int32) (x4 : Int32) (m : bp_M), bm_M_intraBlock_L39 N a1 x2 x3 x4 m = some mr → ∀ (ls : Array Slot) (H : Heap) (locs : List Loc), lv_has ls 11 [(0, .ref (E.2.1 0)), (1, .int a1), (2, .int x2), (3, .int x3), (4, .int x4)] → va_P E.1 bp_cl (bm_W E m) H → va_D A (bm_W E m) → va_S A s.heap H locs → W p l e ({ frames := 4, cells := 0, slots := 0, locals := 99 }) s mt args below meth c H locs 0 0 Q (F0 mt 39 ls []) := by
    intro x2 x3 x4 m h ls H locs hl hP hD hS
    rw [bm_M_intraBlock_L39] at h
    refine lv_iload_n hx hb (dt_bm_M_intraBlock 24 rfl) rfl (lv_at hl 2 rfl) ?_
    refine lv_iconst (v := 3) hx hb (dt_bm_M_intraBlock 25 rfl) (by decide) ?_
    refine lv_icmp_ne (tgt := 69) hx hb (dt_bm_M_intraBlock 26 rfl) (by decide) (fun hc => ?_) (fun hc => ?_)
    · replace h := (if_pos hc).symm.trans h
      exact hL69 _ _ _ _ h ls H locs (lv_sub hl [0, 1, 2, 3, 4] rfl) hP hD hS
    · replace h := (if_neg (fun hn => hn hc)).symm.trans h
      refine lv_iload hx hb (dt_bm_M_intraBlock 27 rfl) (lv_at hl 4 rfl) ?_
      refine lv_if_ne (tgt := 69) hx hb (dt_bm_M_intraBlock 28 rfl) (by decide) (fun hc => ?_) (fun hc => ?_)
      · replace h := (if_pos hc).symm.trans h
        exact hL69 _ _ _ _ h ls H locs (lv_sub hl [0, 1, 2, 3, 4] rfl) hP hD hS
      · replace h := (if_neg (fun hn => hn hc)).symm.trans h
        exact hL49 _ _ _ _ h ls H locs (lv_sub hl [0, 1, 2, 3, 4] rfl) hP hD hS
  have hL28 : ∀ (x2 : Int32) (x3 : Int32) (s0 : Int32) (m : bp_M), bm_M_intraBlock_L28 N a1 x2 x3 s0 m = some mr → ∀ (ls : Array Slot) (H : Heap) (locs : List Loc), lv_has ls 11 [(0, .ref (E.2.1 0)), (1, .int a1), (2, .int x2), (3, .int x3)] → va_P E.1 bp_cl (bm_W E m) H → va_D A (bm_W E m) → va_S A s.heap H locs → W p l e ({ frames := 4, cells := 0, slots := 0, locals := 99 }) s mt args below meth c H locs 0 0 Q (F0 mt 28 ls [.int s0]) := by
    intro x2 x3 s0 m h ls H locs hl hP hD hS
    rw [bm_M_intraBlock_L28] at h
    refine lv_istore hx hb (dt_bm_M_intraBlock 18 rfl) hl (Nat.le_of_ble_eq_true rfl) rfl (fun ls hl => ?_)
    have hl : lv_has ls 11 [(4, .int s0), (0, .ref (E.2.1 0)), (1, .int a1), (2, .int x2), (3, .int x3)] := hl
    refine lv_iload_n hx hb (dt_bm_M_intraBlock 19 rfl) rfl (lv_at hl 3 rfl) ?_
    refine lv_iconst (v := 2) hx hb (dt_bm_M_intraBlock 20 rfl) (by decide) ?_
    refine lv_icmp_ne (tgt := 39) hx hb (dt_bm_M_intraBlock 21 rfl) (by decide) (fun hc => ?_) (fun hc => ?_)
    · replace h := (if_pos hc).symm.trans h
      exact hL39 _ _ _ _ h ls H locs (lv_sub hl [1, 2, 3, 4, 0] rfl) hP hD hS
    · replace h := (if_neg (fun hn => hn hc)).symm.trans h
      refine lv_iload_n hx hb (dt_bm_M_intraBlock 22 rfl) rfl (lv_at hl 4 rfl) ?_
      refine lv_if_eq (tgt := 49) hx hb (dt_bm_M_intraBlock 23 rfl) (by decide) (fun hc => ?_) (fun hc => ?_)
      · replace h := (if_pos hc).symm.trans h
        exact hL49 _ _ _ _ h ls H locs (lv_sub hl [1, 2, 3, 4, 0] rfl) hP hD hS
      · replace h := (if_neg hc).symm.trans h
        exact hL39 _ _ _ _ h ls H locs (lv_sub hl [1, 2, 3, 4, 0] rfl) hP hD hS
  have hL16 : ∀ (x2 : Int32) (s0 : Int32) (m : bp_M), bm_M_intraBlock_L16 N a1 x2 s0 m = some mr → ∀ (ls : Array Slot) (H : Heap) (locs : List Loc), lv_has ls 11 [(0, .ref (E.2.1 0)), (1, .int a1), (2, .int x2)] → va_P E.1 bp_cl (bm_W E m) H → va_D A (bm_W E m) → va_S A s.heap H locs → W p l e ({ frames := 4, cells := 0, slots := 0, locals := 99 }) s mt args below meth c H locs 0 0 Q (F0 mt 16 ls [.int s0]) := by
    intro x2 s0 m h ls H locs hl hP hD hS
    rw [bm_M_intraBlock_L16] at h
    refine lv_istore_n hx hb (dt_bm_M_intraBlock 10 rfl) rfl hl (Nat.le_of_ble_eq_true rfl) rfl (fun ls hl => ?_)
    have hl : lv_has ls 11 [(3, .int s0), (0, .ref (E.2.1 0)), (1, .int a1), (2, .int x2)] := hl
    refine lv_iload_n hx hb (dt_bm_M_intraBlock 11 rfl) rfl (lv_at hl 2 rfl) ?_
    refine lv_iconst (v := 4) hx hb (dt_bm_M_intraBlock 12 rfl) (by decide) ?_
    refine lv_irem hx hb (dt_bm_M_intraBlock 13 rfl) (by decide) ?_
    refine lv_if_le (tgt := 27) hx hb (dt_bm_M_intraBlock 14 rfl) (by decide) (fun hc => ?_) (fun hc => ?_)
    · replace h := (if_pos hc).symm.trans h
      refine lv_iconst (v := 0) hx hb (dt_bm_M_intraBlock 17 rfl) (by decide) ?_
      exact hL28 _ _ _ _ h ls H locs (lv_sub hl [1, 2, 3, 0] rfl) hP hD hS
    · replace h := (if_neg hc).symm.trans h
      refine lv_iconst (v := 1) hx hb (dt_bm_M_intraBlock 15 rfl) (by decide) ?_
      refine lv_goto (tgt := 28) hx hb (dt_bm_M_intraBlock 16 rfl) (by decide) ?_
      exact hL28 _ _ _ _ h ls H locs (lv_sub hl [1, 2, 3, 0] rfl) hP hD hS
  suffices hgo : ∀ (H : Heap) (locs : List Loc), va_P E.1 bp_cl (bm_W E m) H → va_D A (bm_W E m) → va_S A s.heap H locs → W p l e ({ frames := 4, cells := 0, slots := 0, locals := 99 }) s mt args below meth c H locs 0 0 Q (F0 mt 0 ls []) from hgo _ _ hP hD hS
  clear hP hD hS
  intro H locs hP hD hS
  unfold bm_M_intraBlock at h
  refine lv_aload_n hx hb (dt_bm_M_intraBlock 0 rfl) rfl (lv_at hl 0 rfl) ?_
  refine lv_iconst (v := 2) hx hb (dt_bm_M_intraBlock 1 rfl) (by decide) ?_
  obtain ⟨z2, m1, hm1, h⟩ := bp_cI_s h
  refine bm_callI E hsub hS (va_runV (As := [.int 2]) (rest := []) ⟨hx, hb, hml, hown, htb⟩ (wbm_M_bits l E N 2 m H.size z2 m1 hm1) (cwV 1 htb (bp_goodV tw_944 tw_946 tw_39 tw_79 tw_947) rfl rfl rfl ⟨rfl, hd_bm_M_bits⟩ ⟨Nat.le_of_ble_eq_true rfl, Nat.le_of_ble_eq_true rfl⟩) (bm_preV E hsub hst hK hP hD hS (bm_gM E m) rfl rfl _) rfl rfl hl.1 rfl (lv_room (Nat.le_of_ble_eq_true rfl)) (dt_bm_M_intraBlock 2 rfl) ⟨Nat.zero_le _, Nat.zero_le _⟩) (fun H locs hP hD hS => ?_)
  refine lv_istore_n hx hb (dt_bm_M_intraBlock 3 rfl) rfl hl (Nat.le_of_ble_eq_true rfl) rfl (fun ls hl => ?_)
  have hl : lv_has ls 11 [(2, .int z2), (0, .ref (E.2.1 0)), (1, .int a1)] := hl
  refine lv_iload_n hx hb (dt_bm_M_intraBlock 4 rfl) rfl (lv_at hl 2 rfl) ?_
  refine lv_iconst (v := 4) hx hb (dt_bm_M_intraBlock 5 rfl) (by decide) ?_
  refine lv_icmp_lt (tgt := 15) hx hb (dt_bm_M_intraBlock 6 rfl) (by decide) (fun hc => ?_) (fun hc => ?_)
  · replace h := (if_pos hc).symm.trans h
    refine lv_iconst (v := 0) hx hb (dt_bm_M_intraBlock 9 rfl) (by decide) ?_
    exact hL16 _ _ _ h ls H locs (lv_sub hl [1, 2, 0] rfl) hP hD hS
  · replace h := (if_neg hc).symm.trans h
    refine lv_iconst (v := 1) hx hb (dt_bm_M_intraBlock 7 rfl) (by decide) ?_
    refine lv_goto (tgt := 16) hx hb (dt_bm_M_intraBlock 8 rfl) (by decide) ?_
    exact hL16 _ _ _ h ls H locs (lv_sub hl [1, 2, 0] rfl) hP hD hS
set_option maxHeartbeats 4000000 in
set_option maxRecDepth 100000 in
theorem wbm_M_block (l : Launch) (E : bm_E) (N : Nat) (a1 : Int32) (a2 : Int32) (m : bp_M) (sz : Nat) (mr : bp_M)  (h : bm_M_block N a1 a2 m = some mr) : Met l y_bm_M_block (Cond.code y_bm_M_block prog_13_method_21_code 6 none :: bp_tb) ({ frames := 5, cells := 0, slots := 0, locals := 129 }) (bm_Pc E m sz [.ref (E.2.1 0), .int a1, .int a2]) (bm_Qv E m sz mr) 0 0 (va_A (bm_W E m) sz) := by
  refine Met.ofW (cc := prog_13_method_21_code) (maxL := 6) (ret := none) (by decide) rfl ?_
  intro p e s mt args below meth c s₁ B hml hv
  obtain ⟨rfl, hsz, hP, hK, hD0, hst⟩ := hv
  have hx := B.exec
  have hb := B.bytes
  have hr := B.returns
  have htb : ∀ w ∈ bp_tb, w.before _ s = true := fun w hw => atoms_spec (ws := Cond.code y_bm_M_block prog_13_method_21_code 6 none :: bp_tb) B.pre w (List.mem_cons_of_mem _ hw)
  have hown : s.vm.findClass "BlockPicturesModel" = some mt.cls := findClass_of_methodNamed B.named
  have hlocks := B.notSynchronized
  subst hsz
  have hD := hD0.self (sz := s.heap.size)
  generalize hAe : va_A (bm_W E m) s.heap.size = A at hD hst ⊢
  have hsub : ∀ (u : bp_M) (z q : Nat), s.heap.size ≤ z → va_A (bm_W E u) z q → A q := bm_sub hAe
  have hS : va_S A s.heap s.heap [] := va_S.rf
  have hl := lv_entry ([.ref (E.2.1 0), .int a1, .int a2]) (n := 6) (Nat.le_of_ble_eq_true rfl)
  rw [lg_entry_eq]
  generalize (lg_sl ([.ref (E.2.1 0), .int a1, .int a2]) ++ List.replicate (6 - (lg_sl ([.ref (E.2.1 0), .int a1, .int a2])).length) Slot.unset).toArray = ls at hl ⊢
  have hl : lv_has ls 6 [(0, .ref (E.2.1 0)), (1, .int a1), (2, .int a2)] := hl
  refine bm_keyV (R := ({ frames := 5, cells := 0, slots := 0, locals := 129 })) E hx hb hr hlocks hK hAe (fun Q hret => ?_)
  clear B hD0 hlocks hr
  generalize ([.ref (E.2.1 0), .int a1, .int a2] : List Value).toArray = args at htb hret ⊢
  clear hAe
  have hL128 : ∀ (m : bp_M), bm_M_block_L128 N a1 a2 m = some mr → ∀ (ls : Array Slot) (H : Heap) (locs : List Loc), lv_has ls 6 [] → va_P E.1 bp_cl (bm_W E m) H → va_D A (bm_W E m) → va_S A s.heap H locs → W p l e ({ frames := 5, cells := 0, slots := 0, locals := 129 }) s mt args below meth c H locs 0 0 Q (F0 mt 128 ls []) := by
    intro m h ls H locs hl hP hD hS
    rw [bm_M_block_L128] at h
    exact hret _ _ _ _ _ h hP hD hS (dt_bm_M_block 73 rfl)
  have hL109 : ∀ (x3 : Int32) (x4 : Int32) (m : bp_M), bm_M_block_L109 N a1 a2 x3 x4 m = some mr → ∀ (ls : Array Slot) (H : Heap) (locs : List Loc), lv_has ls 6 [(0, .ref (E.2.1 0)), (2, .int a2), (3, .int x3), (4, .int x4)] → va_P E.1 bp_cl (bm_W E m) H → va_D A (bm_W E m) → va_S A s.heap H locs → W p l e ({ frames := 5, cells := 0, slots := 0, locals := 129 }) s mt args below meth c H locs 0 0 Q (F0 mt 109 ls []) := by
    intro x3 x4 m h ls H locs hl hP hD hS
    rw [bm_M_block_L109] at h
    refine lv_iload hx hb (dt_bm_M_block 63 rfl) (lv_at hl 3 rfl) ?_
    refine lv_if_eq (tgt := 123) hx hb (dt_bm_M_block 64 rfl) (by decide) (fun hc => ?_) (fun hc => ?_)
    · replace h := (if_pos hc).symm.trans h
      refine lv_aload_n hx hb (dt_bm_M_block 70 rfl) rfl (lv_at hl 0 rfl) ?_
      refine lv_iload_n hx hb (dt_bm_M_block 71 rfl) rfl (lv_at hl 1 rfl) ?_
      obtain ⟨m1, hm1, h⟩ := bp_cV_s h
      refine bm_callV E hsub hS (va_runV (As := [.int a2]) (rest := []) ⟨hx, hb, hml, hown, htb⟩ (wbm_M_intraBlock l E N a2 m H.size m1 hm1) (cwV 1 htb (bp_goodV tw_1009 tw_1011 tw_53 tw_79 tw_1012) rfl rfl rfl ⟨rfl, hd_bm_M_intraBlock⟩ ⟨Nat.le_of_ble_eq_true rfl, Nat.le_of_ble_eq_true rfl⟩) (bm_preV E hsub hst hK hP hD hS (bm_gM E m) rfl rfl _) rfl rfl hl.1 rfl (lv_room (Nat.le_of_ble_eq_true rfl)) (dt_bm_M_block 72 rfl) ⟨Nat.zero_le _, Nat.zero_le _⟩) (fun H locs hP hD hS => ?_)
      exact hL128 _ h ls H locs (lv_sub hl [] rfl) hP hD hS
    · replace h := (if_neg hc).symm.trans h
      refine lv_aload_n hx hb (dt_bm_M_block 65 rfl) rfl (lv_at hl 0 rfl) ?_
      refine lv_iload_n hx hb (dt_bm_M_block 66 rfl) rfl (lv_at hl 1 rfl) ?_
      refine lv_iload_n hx hb (dt_bm_M_block 67 rfl) rfl (lv_at hl 2 rfl) ?_
      obtain ⟨m2, hm2, h⟩ := bp_cV_s h
      refine bm_callV E hsub hS (va_runV (As := [.int a2, .int x3]) (rest := []) ⟨hx, hb, hml, hown, htb⟩ (wbm_M_interBlock l E N a2 x3 m H.size m2 hm2) (cwV 2 htb (bp_goodV tw_968 tw_970 tw_45 tw_79 tw_971) rfl rfl rfl ⟨rfl, hd_bm_M_interBlock⟩ ⟨Nat.le_of_ble_eq_true rfl, Nat.le_of_ble_eq_true rfl⟩) (bm_preV E hsub hst hK hP hD hS (bm_gM E m) rfl rfl _) rfl rfl hl.1 rfl (lv_room (Nat.le_of_ble_eq_true rfl)) (dt_bm_M_block 68 rfl) ⟨Nat.zero_le _, Nat.zero_le _⟩) (fun H locs hP hD hS => ?_)
      refine lv_goto (tgt := 128) hx hb (dt_bm_M_block 69 rfl) (by decide) ?_
      exact hL128 _ h ls H locs (lv_sub hl [] rfl) hP hD hS
  have hL88 : ∀ (n88 : Nat) (x3 : Int32) (x4 : Int32) (x5 : Int32) (m : bp_M), bm_M_block_L88 N a1 a2 n88 x3 x4 x5 m = some mr → ∀ (ls : Array Slot) (H : Heap) (locs : List Loc), lv_has ls 6 [(0, .ref (E.2.1 0)), (2, .int a2), (3, .int x3), (4, .int x4), (5, .int x5)] → va_P E.1 bp_cl (bm_W E m) H → va_D A (bm_W E m) → va_S A s.heap H locs → W p l e ({ frames := 5, cells := 0, slots := 0, locals := 129 }) s mt args below meth c H locs 0 0 Q (F0 mt 88 ls []) := by
    intro n88
    induction n88 with
    | zero =>
      intro x3 x4 x5 m h ls H locs hl hP hD hS
      rw [bm_M_block_L88] at h
      cases h
    | succ n88 ih88 =>
      intro x3 x4 x5 m h ls H locs hl hP hD hS
      rw [bm_M_block_L88] at h
      refine lv_iload hx hb (dt_bm_M_block 53 rfl) (lv_at hl 4 rfl) ?_
      refine lv_bipush (v := 16) hx hb (dt_bm_M_block 54 rfl) (by decide) ?_
      refine lv_icmp_ge (tgt := 109) hx hb (dt_bm_M_block 55 rfl) (by decide) (fun hc => ?_) (fun hc => ?_)
      · replace h := (if_pos hc).symm.trans h
        exact hL109 _ _ _ h ls H locs (lv_sub hl [0, 1, 2, 3] rfl) hP hD hS
      · replace h := (if_neg hc).symm.trans h
        refine lv_aload_n hx hb (dt_bm_M_block 56 rfl) rfl (lv_at hl 0 rfl) ?_
        refine va_get (D := E.1) (ci := 10) (v := .ref (E.2.1 11)) (C := "BlockPicturesModel") (T := bF_M) (N := 48) hx hb htb bm_in_M hown hK hP 0 (bm_gM E m) rfl 29 (by decide) (htb _ tw_797) (fun _ h9 => h9) rfl (dt_bm_M_block 57 rfl) ?_
        refine lv_iload hx hb (dt_bm_M_block 58 rfl) (lv_at hl 4 rfl) ?_
        refine lv_iconst (v := 0) hx hb (dt_bm_M_block 59 rfl) (by decide) ?_
        obtain ⟨hg1, h⟩ := bp_gi_s h
        refine bm_sI E hx hb hK hP hD hS (bm_ga11 E) hg1 (dt_bm_M_block 60 rfl) (fun m2 em2 H locs hP hD hS => ?_)
        replace h := bp_nM_s h em2
        obtain ⟨y3, ey3⟩ : ∃ z : Int32, z = x5 + 1 := ⟨_, rfl⟩
        replace h := bp_nI_s h ey3
        refine lv_iinc (k := 4) (v := y3) hx hb (dt_bm_M_block 61 rfl) hl rfl (by rw [ey3]; rfl) (Nat.le_of_ble_eq_true rfl) rfl (fun ls hl => ?_)
        have hl : lv_has ls 6 [(5, .int y3), (0, .ref (E.2.1 0)), (2, .int a2), (3, .int x3), (4, .int x4)] := hl
        refine lv_goto (tgt := 88) hx hb (dt_bm_M_block 62 rfl) (by decide) ?_
        exact ih88 _ _ _ _ h ls H locs (lv_sub hl [1, 2, 3, 4, 0] rfl) hP hD hS
  have hL56 : ∀ (x3 : Int32) (x4 : Int32) (s0 : Int32) (s1 : Int32) (m : bp_M), bm_M_block_L56 N a1 a2 x3 x4 s0 s1 m = some mr → ∀ (ls : Array Slot) (H : Heap) (locs : List Loc), lv_has ls 6 [(0, .ref (E.2.1 0)), (2, .int a2), (3, .int x3), (4, .int x4)] → va_P E.1 bp_cl (bm_W E m) H → va_D A (bm_W E m) → va_S A s.heap H locs → W p l e ({ frames := 5, cells := 0, slots := 0, locals := 129 }) s mt args below meth c H locs 0 0 Q (F0 mt 56 ls [.int s0, .int s1, .ref (E.2.1 6)]) := by
    intro x3 x4 s0 s1 m h ls H locs hl hP hD hS
    rw [bm_M_block_L56] at h
    obtain ⟨hg1, h⟩ := bp_gi_s h
    obtain ⟨hg2, h⟩ := bp_g_s h
    refine bm_sZ E hx hb hK hP hD hS (bm_ga6 E) hg1 hg2 (dt_bm_M_block 30 rfl) (fun m3 em3 H locs hP hD hS => ?_)
    replace h := bp_nM_s h em3
    refine lv_aload_n hx hb (dt_bm_M_block 31 rfl) rfl (lv_at hl 0 rfl) ?_
    refine va_get (D := E.1) (ci := 10) (v := .ref (E.2.1 7)) (C := "BlockPicturesModel") (T := bF_M) (N := 48) hx hb htb bm_in_M hown hK hP 0 (bm_gM E m3) rfl 25 (by decide) (htb _ tw_793) (fun _ h9 => h9) rfl (dt_bm_M_block 32 rfl) ?_
    refine lv_iload_n hx hb (dt_bm_M_block 33 rfl) rfl (lv_at hl 1 rfl) ?_
    refine lv_iconst (v := 0) hx hb (dt_bm_M_block 34 rfl) (by decide) ?_
    obtain ⟨hg4, h⟩ := bp_gi_s h
    obtain ⟨hg5, h⟩ := bp_g_s h
    refine bm_sZ E hx hb hK hP hD hS (bm_ga7 E) hg4 hg5 (dt_bm_M_block 35 rfl) (fun m6 em6 H locs hP hD hS => ?_)
    replace h := bp_nM_s h em6
    refine lv_aload_n hx hb (dt_bm_M_block 36 rfl) rfl (lv_at hl 0 rfl) ?_
    refine va_get (D := E.1) (ci := 10) (v := .ref (E.2.1 8)) (C := "BlockPicturesModel") (T := bF_M) (N := 48) hx hb htb bm_in_M hown hK hP 0 (bm_gM E m6) rfl 26 (by decide) (htb _ tw_794) (fun _ h9 => h9) rfl (dt_bm_M_block 37 rfl) ?_
    refine lv_iload_n hx hb (dt_bm_M_block 38 rfl) rfl (lv_at hl 1 rfl) ?_
    refine lv_iconst (v := 0) hx hb (dt_bm_M_block 39 rfl) (by decide) ?_
    obtain ⟨hg7, h⟩ := bp_gi_s h
    refine bm_sI E hx hb hK hP hD hS (bm_ga8 E) hg7 (dt_bm_M_block 40 rfl) (fun m8 em8 H locs hP hD hS => ?_)
    replace h := bp_nM_s h em8
    refine lv_aload_n hx hb (dt_bm_M_block 41 rfl) rfl (lv_at hl 0 rfl) ?_
    refine va_get (D := E.1) (ci := 10) (v := .ref (E.2.1 9)) (C := "BlockPicturesModel") (T := bF_M) (N := 48) hx hb htb bm_in_M hown hK hP 0 (bm_gM E m8) rfl 27 (by decide) (htb _ tw_795) (fun _ h9 => h9) rfl (dt_bm_M_block 42 rfl) ?_
    refine lv_iload_n hx hb (dt_bm_M_block 43 rfl) rfl (lv_at hl 1 rfl) ?_
    refine lv_iconst (v := 0) hx hb (dt_bm_M_block 44 rfl) (by decide) ?_
    obtain ⟨hg9, h⟩ := bp_gi_s h
    refine bm_sI E hx hb hK hP hD hS (bm_ga9 E) hg9 (dt_bm_M_block 45 rfl) (fun m10 em10 H locs hP hD hS => ?_)
    replace h := bp_nM_s h em10
    refine lv_aload_n hx hb (dt_bm_M_block 46 rfl) rfl (lv_at hl 0 rfl) ?_
    refine va_get (D := E.1) (ci := 10) (v := .ref (E.2.1 10)) (C := "BlockPicturesModel") (T := bF_M) (N := 48) hx hb htb bm_in_M hown hK hP 0 (bm_gM E m10) rfl 28 (by decide) (htb _ tw_796) (fun _ h9 => h9) rfl (dt_bm_M_block 47 rfl) ?_
    refine lv_iload_n hx hb (dt_bm_M_block 48 rfl) rfl (lv_at hl 1 rfl) ?_
    refine lv_iconst (v := 0) hx hb (dt_bm_M_block 49 rfl) (by decide) ?_
    obtain ⟨hg11, h⟩ := bp_gi_s h
    refine bm_sI E hx hb hK hP hD hS (bm_ga10 E) hg11 (dt_bm_M_block 50 rfl) (fun m12 em12 H locs hP hD hS => ?_)
    replace h := bp_nM_s h em12
    refine lv_iconst (v := 0) hx hb (dt_bm_M_block 51 rfl) (by decide) ?_
    refine lv_istore hx hb (dt_bm_M_block 52 rfl) hl (Nat.le_of_ble_eq_true rfl) rfl (fun ls hl => ?_)
    have hl : lv_has ls 6 [(5, .int 0), (0, .ref (E.2.1 0)), (2, .int a2), (3, .int x3), (4, .int x4)] := hl
    exact hL88 _ _ _ _ _ h ls H locs (lv_sub hl [1, 2, 3, 4, 0] rfl) hP hD hS
  have hL39 : ∀ (x3 : Int32) (s0 : Int32) (m : bp_M), bm_M_block_L39 N a1 a2 x3 s0 m = some mr → ∀ (ls : Array Slot) (H : Heap) (locs : List Loc), lv_has ls 6 [(0, .ref (E.2.1 0)), (2, .int a2), (3, .int x3)] → va_P E.1 bp_cl (bm_W E m) H → va_D A (bm_W E m) → va_S A s.heap H locs → W p l e ({ frames := 5, cells := 0, slots := 0, locals := 129 }) s mt args below meth c H locs 0 0 Q (F0 mt 39 ls [.int s0]) := by
    intro x3 s0 m h ls H locs hl hP hD hS
    rw [bm_M_block_L39] at h
    refine lv_istore hx hb (dt_bm_M_block 21 rfl) hl (Nat.le_of_ble_eq_true rfl) rfl (fun ls hl => ?_)
    have hl : lv_has ls 6 [(4, .int s0), (0, .ref (E.2.1 0)), (2, .int a2), (3, .int x3)] := hl
    refine lv_aload_n hx hb (dt_bm_M_block 22 rfl) rfl (lv_at hl 1 rfl) ?_
    refine va_get (D := E.1) (ci := 10) (v := .ref (E.2.1 6)) (C := "BlockPicturesModel") (T := bF_M) (N := 48) hx hb htb bm_in_M hown hK hP 0 (bm_gM E m) rfl 24 (by decide) (htb _ tw_792) (fun _ h9 => h9) rfl (dt_bm_M_block 23 rfl) ?_
    refine lv_iload_n hx hb (dt_bm_M_block 24 rfl) rfl (lv_at hl 2 rfl) ?_
    refine lv_iload hx hb (dt_bm_M_block 25 rfl) (lv_at hl 0 rfl) ?_
    refine lv_if_ne (tgt := 55) hx hb (dt_bm_M_block 26 rfl) (by decide) (fun hc => ?_) (fun hc => ?_)
    · replace h := (if_pos hc).symm.trans h
      refine lv_iconst (v := 0) hx hb (dt_bm_M_block 29 rfl) (by decide) ?_
      exact hL56 _ _ _ _ _ h ls H locs (lv_sub hl [1, 2, 3, 0] rfl) hP hD hS
    · replace h := (if_neg (fun hn => hn hc)).symm.trans h
      refine lv_iconst (v := 1) hx hb (dt_bm_M_block 27 rfl) (by decide) ?_
      refine lv_goto (tgt := 56) hx hb (dt_bm_M_block 28 rfl) (by decide) ?_
      exact hL56 _ _ _ _ _ h ls H locs (lv_sub hl [1, 2, 3, 0] rfl) hP hD hS
  have hL38 : ∀ (x3 : Int32) (m : bp_M), bm_M_block_L38 N a1 a2 x3 m = some mr → ∀ (ls : Array Slot) (H : Heap) (locs : List Loc), lv_has ls 6 [(0, .ref (E.2.1 0)), (2, .int a2), (3, .int x3)] → va_P E.1 bp_cl (bm_W E m) H → va_D A (bm_W E m) → va_S A s.heap H locs → W p l e ({ frames := 5, cells := 0, slots := 0, locals := 129 }) s mt args below meth c H locs 0 0 Q (F0 mt 38 ls []) := by
    intro x3 m h ls H locs hl hP hD hS
    rw [bm_M_block_L38] at h
    refine lv_iconst (v := 0) hx hb (dt_bm_M_block 20 rfl) (by decide) ?_
    exact hL39 _ _ _ h ls H locs (lv_sub hl [0, 1, 2] rfl) hP hD hS
  have hL34 : ∀ (x3 : Int32) (m : bp_M), bm_M_block_L34 N a1 a2 x3 m = some mr → ∀ (ls : Array Slot) (H : Heap) (locs : List Loc), lv_has ls 6 [(0, .ref (E.2.1 0)), (2, .int a2), (3, .int x3)] → va_P E.1 bp_cl (bm_W E m) H → va_D A (bm_W E m) → va_S A s.heap H locs → W p l e ({ frames := 5, cells := 0, slots := 0, locals := 129 }) s mt args below meth c H locs 0 0 Q (F0 mt 34 ls []) := by
    intro x3 m h ls H locs hl hP hD hS
    rw [bm_M_block_L34] at h
    refine lv_iconst (v := 1) hx hb (dt_bm_M_block 18 rfl) (by decide) ?_
    refine lv_goto (tgt := 39) hx hb (dt_bm_M_block 19 rfl) (by decide) ?_
    exact hL39 _ _ _ h ls H locs (lv_sub hl [0, 1, 2] rfl) hP hD hS
  have hL17 : ∀ (s0 : Int32) (m : bp_M), bm_M_block_L17 N a1 a2 s0 m = some mr → ∀ (ls : Array Slot) (H : Heap) (locs : List Loc), lv_has ls 6 [(0, .ref (E.2.1 0)), (1, .int a1), (2, .int a2)] → va_P E.1 bp_cl (bm_W E m) H → va_D A (bm_W E m) → va_S A s.heap H locs → W p l e ({ frames := 5, cells := 0, slots := 0, locals := 129 }) s mt args below meth c H locs 0 0 Q (F0 mt 17 ls [.int s0]) := by
    intro s0 m h ls H locs hl hP hD hS
    rw [bm_M_block_L17] at h
    refine lv_istore_n hx hb (dt_bm_M_block 9 rfl) rfl hl (Nat.le_of_ble_eq_true rfl) rfl (fun ls hl => ?_)
    have hl : lv_has ls 6 [(3, .int s0), (0, .ref (E.2.1 0)), (1, .int a1), (2, .int a2)] := hl
    refine lv_iload_n hx hb (dt_bm_M_block 10 rfl) rfl (lv_at hl 0 rfl) ?_
    refine lv_if_ne (tgt := 34) hx hb (dt_bm_M_block 11 rfl) (by decide) (fun hc => ?_) (fun hc => ?_)
    · replace h := (if_pos hc).symm.trans h
      exact hL34 _ _ h ls H locs (lv_sub hl [1, 3, 0] rfl) hP hD hS
    · replace h := (if_neg (fun hn => hn hc)).symm.trans h
      refine lv_iload_n hx hb (dt_bm_M_block 12 rfl) rfl (lv_at hl 2 rfl) ?_
      refine lv_if_ne (tgt := 38) hx hb (dt_bm_M_block 13 rfl) (by decide) (fun hc => ?_) (fun hc => ?_)
      · replace h := (if_pos hc).symm.trans h
        exact hL38 _ _ h ls H locs (lv_sub hl [1, 3, 0] rfl) hP hD hS
      · replace h := (if_neg (fun hn => hn hc)).symm.trans h
        refine lv_aload_n hx hb (dt_bm_M_block 14 rfl) rfl (lv_at hl 1 rfl) ?_
        refine lv_iconst (v := 1) hx hb (dt_bm_M_block 15 rfl) (by decide) ?_
        obtain ⟨z2, m1, hm1, h⟩ := bp_cI_s h
        refine bm_callI E hsub hS (va_runV (As := [.int 1]) (rest := []) ⟨hx, hb, hml, hown, htb⟩ (wbm_M_bits l E N 1 m H.size z2 m1 hm1) (cwV 1 htb (bp_goodV tw_944 tw_946 tw_39 tw_79 tw_947) rfl rfl rfl ⟨rfl, hd_bm_M_bits⟩ ⟨Nat.le_of_ble_eq_true rfl, Nat.le_of_ble_eq_true rfl⟩) (bm_preV E hsub hst hK hP hD hS (bm_gM E m) rfl rfl _) rfl rfl hl.1 rfl (lv_room (Nat.le_of_ble_eq_true rfl)) (dt_bm_M_block 16 rfl) ⟨Nat.zero_le _, Nat.zero_le _⟩) (fun H locs hP hD hS => ?_)
        refine lv_if_ne (tgt := 38) hx hb (dt_bm_M_block 17 rfl) (by decide) (fun hc => ?_) (fun hc => ?_)
        · replace h := (if_pos hc).symm.trans h
          exact hL38 _ _ h ls H locs (lv_sub hl [1, 3, 0] rfl) hP hD hS
        · replace h := (if_neg (fun hn => hn hc)).symm.trans h
          exact hL34 _ _ h ls H locs (lv_sub hl [1, 3, 0] rfl) hP hD hS
  have hL16 : ∀ (m : bp_M), bm_M_block_L16 N a1 a2 m = some mr → ∀ (ls : Array Slot) (H : Heap) (locs : List Loc), lv_has ls 6 [(0, .ref (E.2.1 0)), (1, .int a1), (2, .int a2)] → va_P E.1 bp_cl (bm_W E m) H → va_D A (bm_W E m) → va_S A s.heap H locs → W p l e ({ frames := 5, cells := 0, slots := 0, locals := 129 }) s mt args below meth c H locs 0 0 Q (F0 mt 16 ls []) := by
    intro m h ls H locs hl hP hD hS
    rw [bm_M_block_L16] at h
    refine lv_iconst (v := 0) hx hb (dt_bm_M_block 8 rfl) (by decide) ?_
    exact hL17 _ _ h ls H locs (lv_sub hl [0, 1, 2] rfl) hP hD hS
  suffices hgo : ∀ (H : Heap) (locs : List Loc), va_P E.1 bp_cl (bm_W E m) H → va_D A (bm_W E m) → va_S A s.heap H locs → W p l e ({ frames := 5, cells := 0, slots := 0, locals := 129 }) s mt args below meth c H locs 0 0 Q (F0 mt 0 ls []) from hgo _ _ hP hD hS
  clear hP hD hS
  intro H locs hP hD hS
  unfold bm_M_block at h
  refine lv_iload_n hx hb (dt_bm_M_block 0 rfl) rfl (lv_at hl 1 rfl) ?_
  refine lv_if_ne (tgt := 16) hx hb (dt_bm_M_block 1 rfl) (by decide) (fun hc => ?_) (fun hc => ?_)
  · replace h := (if_pos hc).symm.trans h
    exact hL16 _ h ls H locs (lv_sub hl [0, 1, 2] rfl) hP hD hS
  · replace h := (if_neg (fun hn => hn hc)).symm.trans h
    refine lv_aload_n hx hb (dt_bm_M_block 2 rfl) rfl (lv_at hl 0 rfl) ?_
    refine lv_iconst (v := 1) hx hb (dt_bm_M_block 3 rfl) (by decide) ?_
    obtain ⟨z2, m1, hm1, h⟩ := bp_cI_s h
    refine bm_callI E hsub hS (va_runV (As := [.int 1]) (rest := []) ⟨hx, hb, hml, hown, htb⟩ (wbm_M_bits l E N 1 m H.size z2 m1 hm1) (cwV 1 htb (bp_goodV tw_944 tw_946 tw_39 tw_79 tw_947) rfl rfl rfl ⟨rfl, hd_bm_M_bits⟩ ⟨Nat.le_of_ble_eq_true rfl, Nat.le_of_ble_eq_true rfl⟩) (bm_preV E hsub hst hK hP hD hS (bm_gM E m) rfl rfl _) rfl rfl hl.1 rfl (lv_room (Nat.le_of_ble_eq_true rfl)) (dt_bm_M_block 4 rfl) ⟨Nat.zero_le _, Nat.zero_le _⟩) (fun H locs hP hD hS => ?_)
    refine lv_if_ne (tgt := 16) hx hb (dt_bm_M_block 5 rfl) (by decide) (fun hc => ?_) (fun hc => ?_)
    · replace h := (if_pos hc).symm.trans h
      exact hL16 _ h ls H locs (lv_sub hl [0, 1, 2] rfl) hP hD hS
    · replace h := (if_neg (fun hn => hn hc)).symm.trans h
      refine lv_iconst (v := 1) hx hb (dt_bm_M_block 6 rfl) (by decide) ?_
      refine lv_goto (tgt := 17) hx hb (dt_bm_M_block 7 rfl) (by decide) ?_
      exact hL17 _ _ h ls H locs (lv_sub hl [0, 1, 2] rfl) hP hD hS

set_option maxHeartbeats 4000000 in
set_option maxRecDepth 100000 in
theorem wbc_UI_takeOutside (l : Launch) (E : bc_E) (N : Nat) (a1 : Int32) (m : bp_M) (sz : Nat) (mr : bp_M)  (h : bc_UI_takeOutside N a1 m = some mr) : Met l y_bc_UI_takeOutside (Cond.code y_bc_UI_takeOutside prog_10_method_5_code 2 none :: bp_tb) ({ frames := 0, cells := 0, slots := 0, locals := 0 }) (bc_Pc E m sz [.ref (E.2.1 1), .int a1]) (bc_Qv E m sz mr) 0 0 (va_A (bc_W E m) sz) := by
  refine Met.ofW (cc := prog_10_method_5_code) (maxL := 2) (ret := none) (by decide) rfl ?_
  intro p e s mt args below meth c s₁ B hml hv
  obtain ⟨rfl, hsz, hP, hK, hD0, hst⟩ := hv
  have hx := B.exec
  have hb := B.bytes
  have hr := B.returns
  have htb : ∀ w ∈ bp_tb, w.before _ s = true := fun w hw => atoms_spec (ws := Cond.code y_bc_UI_takeOutside prog_10_method_5_code 2 none :: bp_tb) B.pre w (List.mem_cons_of_mem _ hw)
  have hown : s.vm.findClass "BlockPictures$UnitIntake" = some mt.cls := findClass_of_methodNamed B.named
  have hlocks := B.notSynchronized
  subst hsz
  have hD := hD0.self (sz := s.heap.size)
  generalize hAe : va_A (bc_W E m) s.heap.size = A at hD hst ⊢
  have hsub : ∀ (u : bp_M) (z q : Nat), s.heap.size ≤ z → va_A (bc_W E u) z q → A q := bc_sub hAe
  have hS : va_S A s.heap s.heap [] := va_S.rf
  have hl := lv_entry ([.ref (E.2.1 1), .int a1]) (n := 2) (Nat.le_of_ble_eq_true rfl)
  rw [lg_entry_eq]
  generalize (lg_sl ([.ref (E.2.1 1), .int a1]) ++ List.replicate (2 - (lg_sl ([.ref (E.2.1 1), .int a1])).length) Slot.unset).toArray = ls at hl ⊢
  have hl : lv_has ls 2 [(0, .ref (E.2.1 1)), (1, .int a1)] := hl
  refine bc_keyV (R := ({ frames := 0, cells := 0, slots := 0, locals := 0 })) E hx hb hr hlocks hK hAe (fun Q hret => ?_)
  clear B hD0 hlocks hr
  generalize ([.ref (E.2.1 1), .int a1] : List Value).toArray = args at htb hret ⊢
  clear hAe
  have hL34 : ∀ (s0 : Int32) (m : bp_M), bc_UI_takeOutside_L34 N a1 s0 m = some mr → ∀ (ls : Array Slot) (H : Heap) (locs : List Loc), lv_has ls 2 [(0, .ref (E.2.1 1))] → va_P E.1 bp_cl (bc_W E m) H → va_D A (bc_W E m) → va_S A s.heap H locs → W p l e ({ frames := 0, cells := 0, slots := 0, locals := 0 }) s mt args below meth c H locs 0 0 Q (F0 mt 34 ls [.int s0, .ref (E.2.1 1)]) := by
    intro s0 m h ls H locs hl hP hD hS
    rw [bc_UI_takeOutside_L34] at h
    obtain ⟨hg2, h⟩ := bp_g_s h
    refine bc_pUI_5 E hx hb htb hown hK hP hD hS hg2 (htb _ tw_106) (dt_bc_UI_takeOutside 20 rfl) (fun m1 em1 H locs hP hD hS => ?_)
    replace h := bp_nM_s h em1
    refine lv_aload_n hx hb (dt_bc_UI_takeOutside 21 rfl) rfl (lv_at hl 0 rfl) ?_
    refine lv_iconst (v := 0) hx hb (dt_bc_UI_takeOutside 22 rfl) (by decide) ?_
    refine bc_pUI_3 E hx hb htb hown hK hP hD hS (htb _ tw_103) (dt_bc_UI_takeOutside 23 rfl) (fun m3 em3 H locs hP hD hS => ?_)
    replace h := bp_nM_s h em3
    exact hret _ _ _ _ _ h hP hD hS (dt_bc_UI_takeOutside 24 rfl)
  have hL33 : ∀ (m : bp_M), bc_UI_takeOutside_L33 N a1 m = some mr → ∀ (ls : Array Slot) (H : Heap) (locs : List Loc), lv_has ls 2 [(0, .ref (E.2.1 1))] → va_P E.1 bp_cl (bc_W E m) H → va_D A (bc_W E m) → va_S A s.heap H locs → W p l e ({ frames := 0, cells := 0, slots := 0, locals := 0 }) s mt args below meth c H locs 0 0 Q (F0 mt 33 ls [.ref (E.2.1 1)]) := by
    intro m h ls H locs hl hP hD hS
    rw [bc_UI_takeOutside_L33] at h
    refine lv_iconst (v := 0) hx hb (dt_bc_UI_takeOutside 19 rfl) (by decide) ?_
    exact hL34 _ _ h ls H locs (lv_sub hl [0] rfl) hP hD hS
  suffices hgo : ∀ (H : Heap) (locs : List Loc), va_P E.1 bp_cl (bc_W E m) H → va_D A (bc_W E m) → va_S A s.heap H locs → W p l e ({ frames := 0, cells := 0, slots := 0, locals := 0 }) s mt args below meth c H locs 0 0 Q (F0 mt 0 ls []) from hgo _ _ hP hD hS
  clear hP hD hS
  intro H locs hP hD hS
  unfold bc_UI_takeOutside at h
  refine lv_iload_n hx hb (dt_bc_UI_takeOutside 0 rfl) rfl (lv_at hl 1 rfl) ?_
  refine lv_if_ne (tgt := 15) hx hb (dt_bc_UI_takeOutside 1 rfl) (by decide) (fun hc => ?_) (fun hc => ?_)
  · replace h := (if_pos hc).symm.trans h
    refine lv_aload_n hx hb (dt_bc_UI_takeOutside 9 rfl) rfl (lv_at hl 0 rfl) ?_
    refine lv_iload_n hx hb (dt_bc_UI_takeOutside 10 rfl) rfl (lv_at hl 1 rfl) ?_
    refine lv_iconst (v := 1) hx hb (dt_bc_UI_takeOutside 11 rfl) (by decide) ?_
    refine lv_icmp_ne (tgt := 33) hx hb (dt_bc_UI_takeOutside 12 rfl) (by decide) (fun hc => ?_) (fun hc => ?_)
    · replace h := (if_pos hc).symm.trans h
      exact hL33 _ h ls H locs (lv_sub hl [0] rfl) hP hD hS
    · replace h := (if_neg (fun hn => hn hc)).symm.trans h
      refine lv_aload_n hx hb (dt_bc_UI_takeOutside 13 rfl) rfl (lv_at hl 0 rfl) ?_
      refine va_get (D := E.1) (ci := 1) (v := .int (m.1 1 3)) (C := "BlockPictures$UnitIntake") (T := bF_UI) (N := 6) hx hb htb bc_in_UI hown hK hP 1 (bc_gUI E m) rfl 3 (by decide) (htb _ tw_103) (fun _ h9 => h9) rfl (dt_bc_UI_takeOutside 14 rfl) ?_
      refine lv_iconst (v := 2) hx hb (dt_bc_UI_takeOutside 15 rfl) (by decide) ?_
      refine lv_icmp_lt (tgt := 33) hx hb (dt_bc_UI_takeOutside 16 rfl) (by decide) (fun hc => ?_) (fun hc => ?_)
      · replace h := (if_pos hc).symm.trans h
        exact hL33 _ h ls H locs (lv_sub hl [0] rfl) hP hD hS
      · replace h := (if_neg hc).symm.trans h
        refine lv_iconst (v := 1) hx hb (dt_bc_UI_takeOutside 17 rfl) (by decide) ?_
        refine lv_goto (tgt := 34) hx hb (dt_bc_UI_takeOutside 18 rfl) (by decide) ?_
        exact hL34 _ _ h ls H locs (lv_sub hl [0] rfl) hP hD hS
  · replace h := (if_neg (fun hn => hn hc)).symm.trans h
    refine lv_aload_n hx hb (dt_bc_UI_takeOutside 2 rfl) rfl (lv_at hl 0 rfl) ?_
    refine lv_dup hx hb (dt_bc_UI_takeOutside 3 rfl) rfl ?_
    refine va_get (D := E.1) (ci := 1) (v := .int (m.1 1 3)) (C := "BlockPictures$UnitIntake") (T := bF_UI) (N := 6) hx hb htb bc_in_UI hown hK hP 1 (bc_gUI E m) rfl 3 (by decide) (htb _ tw_103) (fun _ h9 => h9) rfl (dt_bc_UI_takeOutside 4 rfl) ?_
    refine lv_iconst (v := 1) hx hb (dt_bc_UI_takeOutside 5 rfl) (by decide) ?_
    refine lv_iadd hx hb (dt_bc_UI_takeOutside 6 rfl) ?_
    refine bc_pUI_3 E hx hb htb hown hK hP hD hS (htb _ tw_103) (dt_bc_UI_takeOutside 7 rfl) (fun m1 em1 H locs hP hD hS => ?_)
    replace h := bp_nM_s h em1
    exact hret _ _ _ _ _ h hP hD hS (dt_bc_UI_takeOutside 8 rfl)
set_option maxHeartbeats 4000000 in
set_option maxRecDepth 100000 in
theorem wbc_UI_endUnit (l : Launch) (E : bc_E) (N : Nat) (a1 : Int32) (m : bp_M) (sz : Nat) (r : Int32) (mr : bp_M)  (h : bc_UI_endUnit N a1 m = some (r, mr)) : Met l y_bc_UI_endUnit (Cond.code y_bc_UI_endUnit prog_10_method_7_code 2 (some .boolean) :: bp_tb) ({ frames := 0, cells := 0, slots := 0, locals := 0 }) (bc_Pc E m sz [.ref (E.2.1 1), .int a1]) (bc_Qi E m sz r mr) 0 0 (va_A (bc_W E m) sz) := by
  refine Met.ofW (cc := prog_10_method_7_code) (maxL := 2) (ret := (some .boolean)) (by decide) rfl ?_
  intro p e s mt args below meth c s₁ B hml hv
  obtain ⟨rfl, hsz, hP, hK, hD0, hst⟩ := hv
  have hx := B.exec
  have hb := B.bytes
  have hr := B.returns
  have htb : ∀ w ∈ bp_tb, w.before _ s = true := fun w hw => atoms_spec (ws := Cond.code y_bc_UI_endUnit prog_10_method_7_code 2 (some .boolean) :: bp_tb) B.pre w (List.mem_cons_of_mem _ hw)
  have hown : s.vm.findClass "BlockPictures$UnitIntake" = some mt.cls := findClass_of_methodNamed B.named
  have hlocks := B.notSynchronized
  subst hsz
  have hD := hD0.self (sz := s.heap.size)
  generalize hAe : va_A (bc_W E m) s.heap.size = A at hD hst ⊢
  have hsub : ∀ (u : bp_M) (z q : Nat), s.heap.size ≤ z → va_A (bc_W E u) z q → A q := bc_sub hAe
  have hS : va_S A s.heap s.heap [] := va_S.rf
  have hl := lv_entry ([.ref (E.2.1 1), .int a1]) (n := 2) (Nat.le_of_ble_eq_true rfl)
  rw [lg_entry_eq]
  generalize (lg_sl ([.ref (E.2.1 1), .int a1]) ++ List.replicate (2 - (lg_sl ([.ref (E.2.1 1), .int a1])).length) Slot.unset).toArray = ls at hl ⊢
  have hl : lv_has ls 2 [(0, .ref (E.2.1 1)), (1, .int a1)] := hl
  refine bc_keyZ (R := ({ frames := 0, cells := 0, slots := 0, locals := 0 })) E hx hb hr hlocks hK hAe (fun Q hret => ?_)
  clear B hD0 hlocks hr
  generalize ([.ref (E.2.1 1), .int a1] : List Value).toArray = args at htb hret ⊢
  clear hAe
  have hL27 : ∀ (s0 : Int32) (m : bp_M), bc_UI_endUnit_L27 N a1 s0 m = some (r, mr) → ∀ (ls : Array Slot) (H : Heap) (locs : List Loc), lv_has ls 2 [] → va_P E.1 bp_cl (bc_W E m) H → va_D A (bc_W E m) → va_S A s.heap H locs → W p l e ({ frames := 0, cells := 0, slots := 0, locals := 0 }) s mt args below meth c H locs 0 0 Q (F0 mt 27 ls [.int s0]) := by
    intro s0 m h ls H locs hl hP hD hS
    rw [bc_UI_endUnit_L27] at h
    obtain ⟨hg1, h⟩ := bp_g_s h
    exact hret _ _ _ _ _ _ hg1 h hP hD hS (dt_bc_UI_endUnit 15 rfl)
  suffices hgo : ∀ (H : Heap) (locs : List Loc), va_P E.1 bp_cl (bc_W E m) H → va_D A (bc_W E m) → va_S A s.heap H locs → W p l e ({ frames := 0, cells := 0, slots := 0, locals := 0 }) s mt args below meth c H locs 0 0 Q (F0 mt 0 ls []) from hgo _ _ hP hD hS
  clear hP hD hS
  intro H locs hP hD hS
  unfold bc_UI_endUnit at h
  refine lv_aload_n hx hb (dt_bc_UI_endUnit 0 rfl) rfl (lv_at hl 0 rfl) ?_
  refine lv_aload_n hx hb (dt_bc_UI_endUnit 1 rfl) rfl (lv_at hl 0 rfl) ?_
  refine va_get (D := E.1) (ci := 1) (v := .int (m.1 1 1)) (C := "BlockPictures$UnitIntake") (T := bF_UI) (N := 6) hx hb htb bc_in_UI hown hK hP 1 (bc_gUI E m) rfl 1 (by decide) (htb _ tw_100) (fun _ h9 => h9) rfl (dt_bc_UI_endUnit 2 rfl) ?_
  refine lv_iload_n hx hb (dt_bc_UI_endUnit 3 rfl) rfl (lv_at hl 1 rfl) ?_
  refine lv_isub hx hb (dt_bc_UI_endUnit 4 rfl) ?_
  refine bc_pUI_2 E hx hb htb hown hK hP hD hS (htb _ tw_101) (dt_bc_UI_endUnit 5 rfl) (fun m1 em1 H locs hP hD hS => ?_)
  replace h := bp_nM_s h em1
  refine lv_aload_n hx hb (dt_bc_UI_endUnit 6 rfl) rfl (lv_at hl 0 rfl) ?_
  refine lv_iconst (v := 0) hx hb (dt_bc_UI_endUnit 7 rfl) (by decide) ?_
  refine bc_pUI_1 E hx hb htb hown hK hP hD hS (htb _ tw_100) (dt_bc_UI_endUnit 8 rfl) (fun m2 em2 H locs hP hD hS => ?_)
  replace h := bp_nM_s h em2
  refine lv_aload_n hx hb (dt_bc_UI_endUnit 9 rfl) rfl (lv_at hl 0 rfl) ?_
  refine va_get (D := E.1) (ci := 1) (v := .int (m2.1 1 2)) (C := "BlockPictures$UnitIntake") (T := bF_UI) (N := 6) hx hb htb bc_in_UI hown hK hP 1 (bc_gUI E m2) rfl 2 (by decide) (htb _ tw_101) (fun _ h9 => h9) rfl (dt_bc_UI_endUnit 10 rfl) ?_
  refine lv_if_le (tgt := 26) hx hb (dt_bc_UI_endUnit 11 rfl) (by decide) (fun hc => ?_) (fun hc => ?_)
  · replace h := (if_pos hc).symm.trans h
    refine lv_iconst (v := 0) hx hb (dt_bc_UI_endUnit 14 rfl) (by decide) ?_
    exact hL27 _ _ h ls H locs (lv_sub hl [] rfl) hP hD hS
  · replace h := (if_neg hc).symm.trans h
    refine lv_iconst (v := 1) hx hb (dt_bc_UI_endUnit 12 rfl) (by decide) ?_
    refine lv_goto (tgt := 27) hx hb (dt_bc_UI_endUnit 13 rfl) (by decide) ?_
    exact hL27 _ _ h ls H locs (lv_sub hl [] rfl) hP hD hS
set_option maxHeartbeats 4000000 in
set_option maxRecDepth 100000 in
theorem wbc_UI_takeMark (l : Launch) (E : bc_E) (N : Nat) (a1 : Int32) (m : bp_M) (sz : Nat) (r : Int32) (mr : bp_M)  (h : bc_UI_takeMark N a1 m = some (r, mr)) : Met l y_bc_UI_takeMark (Cond.code y_bc_UI_takeMark prog_10_method_6_code 2 (some .boolean) :: bp_tb) ({ frames := 1, cells := 0, slots := 0, locals := 21 }) (bc_Pc E m sz [.ref (E.2.1 1), .int a1]) (bc_Qi E m sz r mr) 0 0 (va_A (bc_W E m) sz) := by
  refine Met.ofW (cc := prog_10_method_6_code) (maxL := 2) (ret := (some .boolean)) (by decide) rfl ?_
  intro p e s mt args below meth c s₁ B hml hv
  obtain ⟨rfl, hsz, hP, hK, hD0, hst⟩ := hv
  have hx := B.exec
  have hb := B.bytes
  have hr := B.returns
  have htb : ∀ w ∈ bp_tb, w.before _ s = true := fun w hw => atoms_spec (ws := Cond.code y_bc_UI_takeMark prog_10_method_6_code 2 (some .boolean) :: bp_tb) B.pre w (List.mem_cons_of_mem _ hw)
  have hown : s.vm.findClass "BlockPictures$UnitIntake" = some mt.cls := findClass_of_methodNamed B.named
  have hlocks := B.notSynchronized
  subst hsz
  have hD := hD0.self (sz := s.heap.size)
  generalize hAe : va_A (bc_W E m) s.heap.size = A at hD hst ⊢
  have hsub : ∀ (u : bp_M) (z q : Nat), s.heap.size ≤ z → va_A (bc_W E u) z q → A q := bc_sub hAe
  have hS : va_S A s.heap s.heap [] := va_S.rf
  have hl := lv_entry ([.ref (E.2.1 1), .int a1]) (n := 2) (Nat.le_of_ble_eq_true rfl)
  rw [lg_entry_eq]
  generalize (lg_sl ([.ref (E.2.1 1), .int a1]) ++ List.replicate (2 - (lg_sl ([.ref (E.2.1 1), .int a1])).length) Slot.unset).toArray = ls at hl ⊢
  have hl : lv_has ls 2 [(0, .ref (E.2.1 1)), (1, .int a1)] := hl
  refine bc_keyZ (R := ({ frames := 1, cells := 0, slots := 0, locals := 21 })) E hx hb hr hlocks hK hAe (fun Q hret => ?_)
  clear B hD0 hlocks hr
  generalize ([.ref (E.2.1 1), .int a1] : List Value).toArray = args at htb hret ⊢
  clear hAe
  have hL41 : ∀ (s0 : Int32) (m : bp_M), bc_UI_takeMark_L41 N a1 s0 m = some (r, mr) → ∀ (ls : Array Slot) (H : Heap) (locs : List Loc), lv_has ls 2 [(0, .ref (E.2.1 1))] → va_P E.1 bp_cl (bc_W E m) H → va_D A (bc_W E m) → va_S A s.heap H locs → W p l e ({ frames := 1, cells := 0, slots := 0, locals := 21 }) s mt args below meth c H locs 0 0 Q (F0 mt 41 ls [.int s0, .ref (E.2.1 1)]) := by
    intro s0 m h ls H locs hl hP hD hS
    rw [bc_UI_takeMark_L41] at h
    obtain ⟨hg2, h⟩ := bp_g_s h
    refine bc_pUI_5 E hx hb htb hown hK hP hD hS hg2 (htb _ tw_106) (dt_bc_UI_takeMark 25 rfl) (fun m1 em1 H locs hP hD hS => ?_)
    replace h := bp_nM_s h em1
    refine lv_aload_n hx hb (dt_bc_UI_takeMark 26 rfl) rfl (lv_at hl 0 rfl) ?_
    refine lv_iconst (v := 2) hx hb (dt_bc_UI_takeMark 27 rfl) (by decide) ?_
    obtain ⟨z4, m3, hm3, h⟩ := bp_cI_s h
    refine bc_callI E hsub hS (va_runV (As := [.int 2]) (rest := []) ⟨hx, hb, hml, hown, htb⟩ (wbc_UI_endUnit l E N 2 m1 H.size z4 m3 hm3) (cwV 1 htb (bp_goodV tw_401 tw_403 tw_3 tw_70 tw_404) rfl rfl rfl ⟨rfl, hd_bc_UI_endUnit⟩ ⟨Nat.le_of_ble_eq_true rfl, Nat.le_of_ble_eq_true rfl⟩) (bc_preV E hsub hst hK hP hD hS (bc_gUI E m1) rfl rfl _) rfl rfl hl.1 rfl (lv_room (Nat.le_of_ble_eq_true rfl)) (dt_bc_UI_takeMark 28 rfl) ⟨Nat.zero_le _, Nat.zero_le _⟩) (fun H locs hP hD hS => ?_)
    obtain ⟨hg5, h⟩ := bp_g_s h
    exact hret _ _ _ _ _ _ hg5 h hP hD hS (dt_bc_UI_takeMark 29 rfl)
  have hL23 : ∀ (m : bp_M), bc_UI_takeMark_L23 N a1 m = some (r, mr) → ∀ (ls : Array Slot) (H : Heap) (locs : List Loc), lv_has ls 2 [(0, .ref (E.2.1 1)), (1, .int a1)] → va_P E.1 bp_cl (bc_W E m) H → va_D A (bc_W E m) → va_S A s.heap H locs → W p l e ({ frames := 1, cells := 0, slots := 0, locals := 21 }) s mt args below meth c H locs 0 0 Q (F0 mt 23 ls []) := by
    intro m h ls H locs hl hP hD hS
    rw [bc_UI_takeMark_L23] at h
    refine lv_iload_n hx hb (dt_bc_UI_takeMark 13 rfl) rfl (lv_at hl 1 rfl) ?_
    refine lv_iconst (v := 2) hx hb (dt_bc_UI_takeMark 14 rfl) (by decide) ?_
    refine lv_icmp_lt (tgt := 30) hx hb (dt_bc_UI_takeMark 15 rfl) (by decide) (fun hc => ?_) (fun hc => ?_)
    · replace h := (if_pos hc).symm.trans h
      refine lv_aload_n hx hb (dt_bc_UI_takeMark 18 rfl) rfl (lv_at hl 0 rfl) ?_
      refine lv_iload_n hx hb (dt_bc_UI_takeMark 19 rfl) rfl (lv_at hl 1 rfl) ?_
      refine lv_iconst (v := 1) hx hb (dt_bc_UI_takeMark 20 rfl) (by decide) ?_
      refine lv_icmp_ne (tgt := 40) hx hb (dt_bc_UI_takeMark 21 rfl) (by decide) (fun hc => ?_) (fun hc => ?_)
      · replace h := (if_pos hc).symm.trans h
        refine lv_iconst (v := 0) hx hb (dt_bc_UI_takeMark 24 rfl) (by decide) ?_
        exact hL41 _ _ h ls H locs (lv_sub hl [0] rfl) hP hD hS
      · replace h := (if_neg (fun hn => hn hc)).symm.trans h
        refine lv_iconst (v := 1) hx hb (dt_bc_UI_takeMark 22 rfl) (by decide) ?_
        refine lv_goto (tgt := 41) hx hb (dt_bc_UI_takeMark 23 rfl) (by decide) ?_
        exact hL41 _ _ h ls H locs (lv_sub hl [0] rfl) hP hD hS
    · replace h := (if_neg hc).symm.trans h
      refine lv_iconst (v := 0) hx hb (dt_bc_UI_takeMark 16 rfl) (by decide) ?_
      obtain ⟨hg1, h⟩ := bp_g_s h
      exact hret _ _ _ _ _ _ hg1 h hP hD hS (dt_bc_UI_takeMark 17 rfl)
  have hL10 : ∀ (s0 : Int32) (m : bp_M), bc_UI_takeMark_L10 N a1 s0 m = some (r, mr) → ∀ (ls : Array Slot) (H : Heap) (locs : List Loc), lv_has ls 2 [(0, .ref (E.2.1 1)), (1, .int a1)] → va_P E.1 bp_cl (bc_W E m) H → va_D A (bc_W E m) → va_S A s.heap H locs → W p l e ({ frames := 1, cells := 0, slots := 0, locals := 21 }) s mt args below meth c H locs 0 0 Q (F0 mt 10 ls [.int s0, .ref (E.2.1 1)]) := by
    intro s0 m h ls H locs hl hP hD hS
    rw [bc_UI_takeMark_L10] at h
    refine bc_pUI_3 E hx hb htb hown hK hP hD hS (htb _ tw_103) (dt_bc_UI_takeMark 6 rfl) (fun m1 em1 H locs hP hD hS => ?_)
    replace h := bp_nM_s h em1
    refine lv_iload_n hx hb (dt_bc_UI_takeMark 7 rfl) rfl (lv_at hl 1 rfl) ?_
    refine lv_iconst (v := 2) hx hb (dt_bc_UI_takeMark 8 rfl) (by decide) ?_
    refine lv_icmp_ne (tgt := 23) hx hb (dt_bc_UI_takeMark 9 rfl) (by decide) (fun hc => ?_) (fun hc => ?_)
    · replace h := (if_pos hc).symm.trans h
      exact hL23 _ h ls H locs (lv_sub hl [0, 1] rfl) hP hD hS
    · replace h := (if_neg (fun hn => hn hc)).symm.trans h
      refine lv_aload_n hx hb (dt_bc_UI_takeMark 10 rfl) rfl (lv_at hl 0 rfl) ?_
      refine lv_iconst (v := 2) hx hb (dt_bc_UI_takeMark 11 rfl) (by decide) ?_
      refine bc_pUI_4 E hx hb htb hown hK hP hD hS (htb _ tw_104) (dt_bc_UI_takeMark 12 rfl) (fun m2 em2 H locs hP hD hS => ?_)
      replace h := bp_nM_s h em2
      exact hL23 _ h ls H locs (lv_sub hl [0, 1] rfl) hP hD hS
  suffices hgo : ∀ (H : Heap) (locs : List Loc), va_P E.1 bp_cl (bc_W E m) H → va_D A (bc_W E m) → va_S A s.heap H locs → W p l e ({ frames := 1, cells := 0, slots := 0, locals := 21 }) s mt args below meth c H locs 0 0 Q (F0 mt 0 ls []) from hgo _ _ hP hD hS
  clear hP hD hS
  intro H locs hP hD hS
  unfold bc_UI_takeMark at h
  refine lv_aload_n hx hb (dt_bc_UI_takeMark 0 rfl) rfl (lv_at hl 0 rfl) ?_
  refine lv_iload_n hx hb (dt_bc_UI_takeMark 1 rfl) rfl (lv_at hl 1 rfl) ?_
  refine lv_if_ne (tgt := 9) hx hb (dt_bc_UI_takeMark 2 rfl) (by decide) (fun hc => ?_) (fun hc => ?_)
  · replace h := (if_pos hc).symm.trans h
    refine lv_iconst (v := 0) hx hb (dt_bc_UI_takeMark 5 rfl) (by decide) ?_
    exact hL10 _ _ h ls H locs (lv_sub hl [0, 1] rfl) hP hD hS
  · replace h := (if_neg (fun hn => hn hc)).symm.trans h
    refine lv_iconst (v := 3) hx hb (dt_bc_UI_takeMark 3 rfl) (by decide) ?_
    refine lv_goto (tgt := 10) hx hb (dt_bc_UI_takeMark 4 rfl) (by decide) ?_
    exact hL10 _ _ h ls H locs (lv_sub hl [0, 1] rfl) hP hD hS
set_option maxHeartbeats 4000000 in
set_option maxRecDepth 100000 in
theorem wbc_UI_append (l : Launch) (E : bc_E) (N : Nat) (a1 : Int32) (m : bp_M) (sz : Nat) (mr : bp_M)  (h : bc_UI_append N a1 m = some mr) : Met l y_bc_UI_append (Cond.code y_bc_UI_append prog_10_method_8_code 2 none :: bp_tb) ({ frames := 0, cells := 0, slots := 0, locals := 0 }) (bc_Pc E m sz [.ref (E.2.1 1), .int a1]) (bc_Qv E m sz mr) 0 0 (va_A (bc_W E m) sz) := by
  refine Met.ofW (cc := prog_10_method_8_code) (maxL := 2) (ret := none) (by decide) rfl ?_
  intro p e s mt args below meth c s₁ B hml hv
  obtain ⟨rfl, hsz, hP, hK, hD0, hst⟩ := hv
  have hx := B.exec
  have hb := B.bytes
  have hr := B.returns
  have htb : ∀ w ∈ bp_tb, w.before _ s = true := fun w hw => atoms_spec (ws := Cond.code y_bc_UI_append prog_10_method_8_code 2 none :: bp_tb) B.pre w (List.mem_cons_of_mem _ hw)
  have hown : s.vm.findClass "BlockPictures$UnitIntake" = some mt.cls := findClass_of_methodNamed B.named
  have hlocks := B.notSynchronized
  subst hsz
  have hD := hD0.self (sz := s.heap.size)
  generalize hAe : va_A (bc_W E m) s.heap.size = A at hD hst ⊢
  have hsub : ∀ (u : bp_M) (z q : Nat), s.heap.size ≤ z → va_A (bc_W E u) z q → A q := bc_sub hAe
  have hS : va_S A s.heap s.heap [] := va_S.rf
  have hl := lv_entry ([.ref (E.2.1 1), .int a1]) (n := 2) (Nat.le_of_ble_eq_true rfl)
  rw [lg_entry_eq]
  generalize (lg_sl ([.ref (E.2.1 1), .int a1]) ++ List.replicate (2 - (lg_sl ([.ref (E.2.1 1), .int a1])).length) Slot.unset).toArray = ls at hl ⊢
  have hl : lv_has ls 2 [(0, .ref (E.2.1 1)), (1, .int a1)] := hl
  refine bc_keyV (R := ({ frames := 0, cells := 0, slots := 0, locals := 0 })) E hx hb hr hlocks hK hAe (fun Q hret => ?_)
  clear B hD0 hlocks hr
  generalize ([.ref (E.2.1 1), .int a1] : List Value).toArray = args at htb hret ⊢
  clear hAe
  have hL51 : ∀ (s0 : Int32) (m : bp_M), bc_UI_append_L51 N a1 s0 m = some mr → ∀ (ls : Array Slot) (H : Heap) (locs : List Loc), lv_has ls 2 [] → va_P E.1 bp_cl (bc_W E m) H → va_D A (bc_W E m) → va_S A s.heap H locs → W p l e ({ frames := 0, cells := 0, slots := 0, locals := 0 }) s mt args below meth c H locs 0 0 Q (F0 mt 51 ls [.int s0, .ref (E.2.1 1)]) := by
    intro s0 m h ls H locs hl hP hD hS
    rw [bc_UI_append_L51] at h
    refine bc_pUI_3 E hx hb htb hown hK hP hD hS (htb _ tw_103) (dt_bc_UI_append 29 rfl) (fun m1 em1 H locs hP hD hS => ?_)
    replace h := bp_nM_s h em1
    exact hret _ _ _ _ _ h hP hD hS (dt_bc_UI_append 30 rfl)
  suffices hgo : ∀ (H : Heap) (locs : List Loc), va_P E.1 bp_cl (bc_W E m) H → va_D A (bc_W E m) → va_S A s.heap H locs → W p l e ({ frames := 0, cells := 0, slots := 0, locals := 0 }) s mt args below meth c H locs 0 0 Q (F0 mt 0 ls []) from hgo _ _ hP hD hS
  clear hP hD hS
  intro H locs hP hD hS
  unfold bc_UI_append at h
  refine lv_aload_n hx hb (dt_bc_UI_append 0 rfl) rfl (lv_at hl 0 rfl) ?_
  refine va_get (D := E.1) (ci := 1) (v := .int (m.1 1 1)) (C := "BlockPictures$UnitIntake") (T := bF_UI) (N := 6) hx hb htb bc_in_UI hown hK hP 1 (bc_gUI E m) rfl 1 (by decide) (htb _ tw_100) (fun _ h9 => h9) rfl (dt_bc_UI_append 1 rfl) ?_
  refine lv_sipush (v := 320) hx hb (dt_bc_UI_append 2 rfl) (by decide) ?_
  refine lv_icmp_lt (tgt := 16) hx hb (dt_bc_UI_append 3 rfl) (by decide) (fun hc => ?_) (fun hc => ?_)
  · replace h := (if_pos hc).symm.trans h
    refine lv_aload_n hx hb (dt_bc_UI_append 8 rfl) rfl (lv_at hl 0 rfl) ?_
    refine va_get (D := E.1) (ci := 1) (v := .ref (E.2.1 15)) (C := "BlockPictures$UnitIntake") (T := bF_UI) (N := 6) hx hb htb bc_in_UI hown hK hP 1 (bc_gUI E m) rfl 0 (by decide) (htb _ tw_98) (fun _ h9 => h9) rfl (dt_bc_UI_append 9 rfl) ?_
    refine lv_aload_n hx hb (dt_bc_UI_append 10 rfl) rfl (lv_at hl 0 rfl) ?_
    refine va_get (D := E.1) (ci := 1) (v := .int (m.1 1 1)) (C := "BlockPictures$UnitIntake") (T := bF_UI) (N := 6) hx hb htb bc_in_UI hown hK hP 1 (bc_gUI E m) rfl 1 (by decide) (htb _ tw_100) (fun _ h9 => h9) rfl (dt_bc_UI_append 11 rfl) ?_
    refine lv_iload_n hx hb (dt_bc_UI_append 12 rfl) rfl (lv_at hl 1 rfl) ?_
    obtain ⟨hg1, h⟩ := bp_gi_s h
    refine bc_sI E hx hb hK hP hD hS (bc_ga15 E) hg1 (dt_bc_UI_append 13 rfl) (fun m2 em2 H locs hP hD hS => ?_)
    replace h := bp_nM_s h em2
    refine lv_aload_n hx hb (dt_bc_UI_append 14 rfl) rfl (lv_at hl 0 rfl) ?_
    refine lv_dup hx hb (dt_bc_UI_append 15 rfl) rfl ?_
    refine va_get (D := E.1) (ci := 1) (v := .int (m2.1 1 1)) (C := "BlockPictures$UnitIntake") (T := bF_UI) (N := 6) hx hb htb bc_in_UI hown hK hP 1 (bc_gUI E m2) rfl 1 (by decide) (htb _ tw_100) (fun _ h9 => h9) rfl (dt_bc_UI_append 16 rfl) ?_
    refine lv_iconst (v := 1) hx hb (dt_bc_UI_append 17 rfl) (by decide) ?_
    refine lv_iadd hx hb (dt_bc_UI_append 18 rfl) ?_
    refine bc_pUI_1 E hx hb htb hown hK hP hD hS (htb _ tw_100) (dt_bc_UI_append 19 rfl) (fun m3 em3 H locs hP hD hS => ?_)
    replace h := bp_nM_s h em3
    refine lv_aload_n hx hb (dt_bc_UI_append 20 rfl) rfl (lv_at hl 0 rfl) ?_
    refine lv_iload_n hx hb (dt_bc_UI_append 21 rfl) rfl (lv_at hl 1 rfl) ?_
    refine lv_if_ne (tgt := 50) hx hb (dt_bc_UI_append 22 rfl) (by decide) (fun hc => ?_) (fun hc => ?_)
    · replace h := (if_pos hc).symm.trans h
      refine lv_iconst (v := 0) hx hb (dt_bc_UI_append 28 rfl) (by decide) ?_
      exact hL51 _ _ h ls H locs (lv_sub hl [] rfl) hP hD hS
    · replace h := (if_neg (fun hn => hn hc)).symm.trans h
      refine lv_aload_n hx hb (dt_bc_UI_append 23 rfl) rfl (lv_at hl 0 rfl) ?_
      refine va_get (D := E.1) (ci := 1) (v := .int (m3.1 1 3)) (C := "BlockPictures$UnitIntake") (T := bF_UI) (N := 6) hx hb htb bc_in_UI hown hK hP 1 (bc_gUI E m3) rfl 3 (by decide) (htb _ tw_103) (fun _ h9 => h9) rfl (dt_bc_UI_append 24 rfl) ?_
      refine lv_iconst (v := 1) hx hb (dt_bc_UI_append 25 rfl) (by decide) ?_
      refine lv_iadd hx hb (dt_bc_UI_append 26 rfl) ?_
      refine lv_goto (tgt := 51) hx hb (dt_bc_UI_append 27 rfl) (by decide) ?_
      exact hL51 _ _ h ls H locs (lv_sub hl [] rfl) hP hD hS
  · replace h := (if_neg hc).symm.trans h
    refine lv_aload_n hx hb (dt_bc_UI_append 4 rfl) rfl (lv_at hl 0 rfl) ?_
    refine lv_iconst (v := 3) hx hb (dt_bc_UI_append 5 rfl) (by decide) ?_
    refine bc_pUI_4 E hx hb htb hown hK hP hD hS (htb _ tw_104) (dt_bc_UI_append 6 rfl) (fun m4 em4 H locs hP hD hS => ?_)
    replace h := bp_nM_s h em4
    exact hret _ _ _ _ _ h hP hD hS (dt_bc_UI_append 7 rfl)
set_option maxHeartbeats 4000000 in
set_option maxRecDepth 100000 in
theorem wbc_UI_take (l : Launch) (E : bc_E) (N : Nat) (a1 : Int32) (m : bp_M) (sz : Nat) (r : Int32) (mr : bp_M)  (h : bc_UI_take N a1 m = some (r, mr)) : Met l y_bc_UI_take (Cond.code y_bc_UI_take prog_10_method_3_code 2 (some .boolean) :: bp_tb) ({ frames := 2, cells := 0, slots := 0, locals := 42 }) (bc_Pc E m sz [.ref (E.2.1 1), .int a1]) (bc_Qi E m sz r mr) 0 0 (va_A (bc_W E m) sz) := by
  refine Met.ofW (cc := prog_10_method_3_code) (maxL := 2) (ret := (some .boolean)) (by decide) rfl ?_
  intro p e s mt args below meth c s₁ B hml hv
  obtain ⟨rfl, hsz, hP, hK, hD0, hst⟩ := hv
  have hx := B.exec
  have hb := B.bytes
  have hr := B.returns
  have htb : ∀ w ∈ bp_tb, w.before _ s = true := fun w hw => atoms_spec (ws := Cond.code y_bc_UI_take prog_10_method_3_code 2 (some .boolean) :: bp_tb) B.pre w (List.mem_cons_of_mem _ hw)
  have hown : s.vm.findClass "BlockPictures$UnitIntake" = some mt.cls := findClass_of_methodNamed B.named
  have hlocks := B.notSynchronized
  subst hsz
  have hD := hD0.self (sz := s.heap.size)
  generalize hAe : va_A (bc_W E m) s.heap.size = A at hD hst ⊢
  have hsub : ∀ (u : bp_M) (z q : Nat), s.heap.size ≤ z → va_A (bc_W E u) z q → A q := bc_sub hAe
  have hS : va_S A s.heap s.heap [] := va_S.rf
  have hl := lv_entry ([.ref (E.2.1 1), .int a1]) (n := 2) (Nat.le_of_ble_eq_true rfl)
  rw [lg_entry_eq]
  generalize (lg_sl ([.ref (E.2.1 1), .int a1]) ++ List.replicate (2 - (lg_sl ([.ref (E.2.1 1), .int a1])).length) Slot.unset).toArray = ls at hl ⊢
  have hl : lv_has ls 2 [(0, .ref (E.2.1 1)), (1, .int a1)] := hl
  refine bc_keyZ (R := ({ frames := 2, cells := 0, slots := 0, locals := 42 })) E hx hb hr hlocks hK hAe (fun Q hret => ?_)
  clear B hD0 hlocks hr
  generalize ([.ref (E.2.1 1), .int a1] : List Value).toArray = args at htb hret ⊢
  clear hAe
  have hL33 : ∀ (m : bp_M), bc_UI_take_L33 N a1 m = some (r, mr) → ∀ (ls : Array Slot) (H : Heap) (locs : List Loc), lv_has ls 2 [(0, .ref (E.2.1 1)), (1, .int a1)] → va_P E.1 bp_cl (bc_W E m) H → va_D A (bc_W E m) → va_S A s.heap H locs → W p l e ({ frames := 2, cells := 0, slots := 0, locals := 42 }) s mt args below meth c H locs 0 0 Q (F0 mt 33 ls []) := by
    intro m h ls H locs hl hP hD hS
    rw [bc_UI_take_L33] at h
    refine lv_aload_n hx hb (dt_bc_UI_take 19 rfl) rfl (lv_at hl 0 rfl) ?_
    refine lv_iload_n hx hb (dt_bc_UI_take 20 rfl) rfl (lv_at hl 1 rfl) ?_
    obtain ⟨m1, hm1, h⟩ := bp_cV_s h
    refine bc_callV E hsub hS (va_runV (As := [.int a1]) (rest := []) ⟨hx, hb, hml, hown, htb⟩ (wbc_UI_append l E N a1 m H.size m1 hm1) (cwV 1 htb (bp_goodV tw_405 tw_407 tw_4 tw_70 tw_408) rfl rfl rfl ⟨rfl, hd_bc_UI_append⟩ ⟨Nat.le_of_ble_eq_true rfl, Nat.le_of_ble_eq_true rfl⟩) (bc_preV E hsub hst hK hP hD hS (bc_gUI E m) rfl rfl _) rfl rfl hl.1 rfl (lv_room (Nat.le_of_ble_eq_true rfl)) (dt_bc_UI_take 21 rfl) ⟨Nat.zero_le _, Nat.zero_le _⟩) (fun H locs hP hD hS => ?_)
    refine lv_iconst (v := 0) hx hb (dt_bc_UI_take 22 rfl) (by decide) ?_
    obtain ⟨hg2, h⟩ := bp_g_s h
    exact hret _ _ _ _ _ _ hg2 h hP hD hS (dt_bc_UI_take 23 rfl)
  suffices hgo : ∀ (H : Heap) (locs : List Loc), va_P E.1 bp_cl (bc_W E m) H → va_D A (bc_W E m) → va_S A s.heap H locs → W p l e ({ frames := 2, cells := 0, slots := 0, locals := 42 }) s mt args below meth c H locs 0 0 Q (F0 mt 0 ls []) from hgo _ _ hP hD hS
  clear hP hD hS
  intro H locs hP hD hS
  unfold bc_UI_take at h
  refine lv_aload_n hx hb (dt_bc_UI_take 0 rfl) rfl (lv_at hl 0 rfl) ?_
  refine va_get (D := E.1) (ci := 1) (v := .int (m.1 1 5)) (C := "BlockPictures$UnitIntake") (T := bF_UI) (N := 6) hx hb htb bc_in_UI hown hK hP 1 (bc_gUI E m) rfl 5 (by decide) (htb _ tw_106) (fun _ h9 => h9) rfl (dt_bc_UI_take 1 rfl) ?_
  refine lv_if_ne (tgt := 14) hx hb (dt_bc_UI_take 2 rfl) (by decide) (fun hc => ?_) (fun hc => ?_)
  · replace h := (if_pos hc).symm.trans h
    refine lv_aload_n hx hb (dt_bc_UI_take 8 rfl) rfl (lv_at hl 0 rfl) ?_
    refine va_get (D := E.1) (ci := 1) (v := .int (m.1 1 3)) (C := "BlockPictures$UnitIntake") (T := bF_UI) (N := 6) hx hb htb bc_in_UI hown hK hP 1 (bc_gUI E m) rfl 3 (by decide) (htb _ tw_103) (fun _ h9 => h9) rfl (dt_bc_UI_take 9 rfl) ?_
    refine lv_iconst (v := 2) hx hb (dt_bc_UI_take 10 rfl) (by decide) ?_
    refine lv_icmp_ne (tgt := 33) hx hb (dt_bc_UI_take 11 rfl) (by decide) (fun hc => ?_) (fun hc => ?_)
    · replace h := (if_pos hc).symm.trans h
      exact hL33 _ h ls H locs (lv_sub hl [0, 1] rfl) hP hD hS
    · replace h := (if_neg (fun hn => hn hc)).symm.trans h
      refine lv_iload_n hx hb (dt_bc_UI_take 12 rfl) rfl (lv_at hl 1 rfl) ?_
      refine lv_iconst (v := 3) hx hb (dt_bc_UI_take 13 rfl) (by decide) ?_
      refine lv_icmp_gt (tgt := 33) hx hb (dt_bc_UI_take 14 rfl) (by decide) (fun hc => ?_) (fun hc => ?_)
      · replace h := (if_pos hc).symm.trans h
        exact hL33 _ h ls H locs (lv_sub hl [0, 1] rfl) hP hD hS
      · replace h := (if_neg hc).symm.trans h
        refine lv_aload_n hx hb (dt_bc_UI_take 15 rfl) rfl (lv_at hl 0 rfl) ?_
        refine lv_iload_n hx hb (dt_bc_UI_take 16 rfl) rfl (lv_at hl 1 rfl) ?_
        obtain ⟨z2, m1, hm1, h⟩ := bp_cI_s h
        refine bc_callI E hsub hS (va_runV (As := [.int a1]) (rest := []) ⟨hx, hb, hml, hown, htb⟩ (wbc_UI_takeMark l E N a1 m H.size z2 m1 hm1) (cwV 1 htb (bp_goodV tw_397 tw_399 tw_2 tw_70 tw_400) rfl rfl rfl ⟨rfl, hd_bc_UI_takeMark⟩ ⟨Nat.le_of_ble_eq_true rfl, Nat.le_of_ble_eq_true rfl⟩) (bc_preV E hsub hst hK hP hD hS (bc_gUI E m) rfl rfl _) rfl rfl hl.1 rfl (lv_room (Nat.le_of_ble_eq_true rfl)) (dt_bc_UI_take 17 rfl) ⟨Nat.zero_le _, Nat.zero_le _⟩) (fun H locs hP hD hS => ?_)
        obtain ⟨hg3, h⟩ := bp_g_s h
        exact hret _ _ _ _ _ _ hg3 h hP hD hS (dt_bc_UI_take 18 rfl)
  · replace h := (if_neg (fun hn => hn hc)).symm.trans h
    refine lv_aload_n hx hb (dt_bc_UI_take 3 rfl) rfl (lv_at hl 0 rfl) ?_
    refine lv_iload_n hx hb (dt_bc_UI_take 4 rfl) rfl (lv_at hl 1 rfl) ?_
    obtain ⟨m4, hm4, h⟩ := bp_cV_s h
    refine bc_callV E hsub hS (va_runV (As := [.int a1]) (rest := []) ⟨hx, hb, hml, hown, htb⟩ (wbc_UI_takeOutside l E N a1 m H.size m4 hm4) (cwV 1 htb (bp_goodV tw_393 tw_395 tw_1 tw_70 tw_396) rfl rfl rfl ⟨rfl, hd_bc_UI_takeOutside⟩ ⟨Nat.le_of_ble_eq_true rfl, Nat.le_of_ble_eq_true rfl⟩) (bc_preV E hsub hst hK hP hD hS (bc_gUI E m) rfl rfl _) rfl rfl hl.1 rfl (lv_room (Nat.le_of_ble_eq_true rfl)) (dt_bc_UI_take 5 rfl) ⟨Nat.zero_le _, Nat.zero_le _⟩) (fun H locs hP hD hS => ?_)
    refine lv_iconst (v := 0) hx hb (dt_bc_UI_take 6 rfl) (by decide) ?_
    obtain ⟨hg5, h⟩ := bp_g_s h
    exact hret _ _ _ _ _ _ hg5 h hP hD hS (dt_bc_UI_take 7 rfl)
set_option maxHeartbeats 4000000 in
set_option maxRecDepth 100000 in
theorem wbc_BP_unitEndsAt (l : Launch) (E : bc_E) (N : Nat) (a1 : Int32) (m : bp_M) (sz : Nat) (r : Int32) (mr : bp_M)  (h : bc_BP_unitEndsAt N a1 m = some (r, mr)) : Met l y_bc_BP_unitEndsAt (Cond.code y_bc_BP_unitEndsAt prog_1_method_19_code 3 (some .boolean) :: bp_tb) ({ frames := 3, cells := 0, slots := 0, locals := 63 }) (bc_Pc E m sz [.ref (E.2.1 0), .int a1]) (bc_Qi E m sz r mr) 0 0 (va_A (bc_W E m) sz) := by
  refine Met.ofW (cc := prog_1_method_19_code) (maxL := 3) (ret := (some .boolean)) (by decide) rfl ?_
  intro p e s mt args below meth c s₁ B hml hv
  obtain ⟨rfl, hsz, hP, hK, hD0, hst⟩ := hv
  have hx := B.exec
  have hb := B.bytes
  have hr := B.returns
  have htb : ∀ w ∈ bp_tb, w.before _ s = true := fun w hw => atoms_spec (ws := Cond.code y_bc_BP_unitEndsAt prog_1_method_19_code 3 (some .boolean) :: bp_tb) B.pre w (List.mem_cons_of_mem _ hw)
  have hown : s.vm.findClass "BlockPictures" = some mt.cls := findClass_of_methodNamed B.named
  have hlocks := B.notSynchronized
  subst hsz
  have hD := hD0.self (sz := s.heap.size)
  generalize hAe : va_A (bc_W E m) s.heap.size = A at hD hst ⊢
  have hsub : ∀ (u : bp_M) (z q : Nat), s.heap.size ≤ z → va_A (bc_W E u) z q → A q := bc_sub hAe
  have hS : va_S A s.heap s.heap [] := va_S.rf
  have hl := lv_entry ([.ref (E.2.1 0), .int a1]) (n := 3) (Nat.le_of_ble_eq_true rfl)
  rw [lg_entry_eq]
  generalize (lg_sl ([.ref (E.2.1 0), .int a1]) ++ List.replicate (3 - (lg_sl ([.ref (E.2.1 0), .int a1])).length) Slot.unset).toArray = ls at hl ⊢
  have hl : lv_has ls 3 [(0, .ref (E.2.1 0)), (1, .int a1)] := hl
  refine bc_keyZ (R := ({ frames := 3, cells := 0, slots := 0, locals := 63 })) E hx hb hr hlocks hK hAe (fun Q hret => ?_)
  clear B hD0 hlocks hr
  generalize ([.ref (E.2.1 0), .int a1] : List Value).toArray = args at htb hret ⊢
  clear hAe
  suffices hgo : ∀ (H : Heap) (locs : List Loc), va_P E.1 bp_cl (bc_W E m) H → va_D A (bc_W E m) → va_S A s.heap H locs → W p l e ({ frames := 3, cells := 0, slots := 0, locals := 63 }) s mt args below meth c H locs 0 0 Q (F0 mt 0 ls []) from hgo _ _ hP hD hS
  clear hP hD hS
  intro H locs hP hD hS
  unfold bc_BP_unitEndsAt at h
  refine lv_aload_n hx hb (dt_bc_BP_unitEndsAt 0 rfl) rfl (lv_at hl 0 rfl) ?_
  refine va_get (D := E.1) (ci := 0) (v := .int (m.1 0 5)) (C := "BlockPictures") (T := bF_BP) (N := 7) hx hb htb bc_in_BP hown hK hP 0 (bc_gBP E m) rfl 5 (by decide) (htb _ tw_364) (fun _ h9 => h9) rfl (dt_bc_BP_unitEndsAt 1 rfl) ?_
  refine lv_if_eq (tgt := 9) hx hb (dt_bc_BP_unitEndsAt 2 rfl) (by decide) (fun hc => ?_) (fun hc => ?_)
  · replace h := (if_pos hc).symm.trans h
    refine lv_aload_n hx hb (dt_bc_BP_unitEndsAt 5 rfl) rfl (lv_at hl 0 rfl) ?_
    refine va_get (D := E.1) (ci := 0) (v := .ref (E.2.1 1)) (C := "BlockPictures") (T := bF_BP) (N := 7) hx hb htb bc_in_BP hown hK hP 0 (bc_gBP E m) rfl 0 (by decide) (htb _ tw_359) (fun _ h9 => h9) rfl (dt_bc_BP_unitEndsAt 6 rfl) ?_
    refine lv_iload_n hx hb (dt_bc_BP_unitEndsAt 7 rfl) rfl (lv_at hl 1 rfl) ?_
    obtain ⟨z2, m1, hm1, h⟩ := bp_cI_s h
    refine bc_callI E hsub hS (va_runV (As := [.int a1]) (rest := []) ⟨hx, hb, hml, hown, htb⟩ (wbc_UI_take l E N a1 m H.size z2 m1 hm1) (cwV 1 htb (bp_goodV tw_389 tw_390 tw_391 tw_70 tw_392) rfl rfl rfl ⟨rfl, hd_bc_UI_take⟩ ⟨Nat.le_of_ble_eq_true rfl, Nat.le_of_ble_eq_true rfl⟩) (bc_preV E hsub hst hK hP hD hS (bc_gUI E m) rfl rfl _) rfl rfl hl.1 rfl (lv_room (Nat.le_of_ble_eq_true rfl)) (dt_bc_BP_unitEndsAt 8 rfl) ⟨Nat.zero_le _, Nat.zero_le _⟩) (fun H locs hP hD hS => ?_)
    refine lv_istore_n hx hb (dt_bc_BP_unitEndsAt 9 rfl) rfl hl (Nat.le_of_ble_eq_true rfl) rfl (fun ls hl => ?_)
    have hl : lv_has ls 3 [(2, .int z2), (0, .ref (E.2.1 0)), (1, .int a1)] := hl
    refine lv_aload_n hx hb (dt_bc_BP_unitEndsAt 10 rfl) rfl (lv_at hl 1 rfl) ?_
    refine lv_aload_n hx hb (dt_bc_BP_unitEndsAt 11 rfl) rfl (lv_at hl 1 rfl) ?_
    refine va_get (D := E.1) (ci := 0) (v := .ref (E.2.1 1)) (C := "BlockPictures") (T := bF_BP) (N := 7) hx hb htb bc_in_BP hown hK hP 0 (bc_gBP E m1) rfl 0 (by decide) (htb _ tw_359) (fun _ h9 => h9) rfl (dt_bc_BP_unitEndsAt 12 rfl) ?_
    refine va_get (D := E.1) (ci := 1) (v := .int (m1.1 1 4)) (C := "BlockPictures$UnitIntake") (T := bF_UI) (N := 6) hx hb htb bc_in_UI hown hK hP 1 (bc_gUI E m1) rfl 4 (by decide) (htb _ tw_105) (fun _ h9 => h9) rfl (dt_bc_BP_unitEndsAt 13 rfl) ?_
    refine bc_pBP_5 E hx hb htb hown hK hP hD hS (htb _ tw_364) (dt_bc_BP_unitEndsAt 14 rfl) (fun m3 em3 H locs hP hD hS => ?_)
    replace h := bp_nM_s h em3
    refine lv_iload_n hx hb (dt_bc_BP_unitEndsAt 15 rfl) rfl (lv_at hl 0 rfl) ?_
    obtain ⟨hg4, h⟩ := bp_g_s h
    exact hret _ _ _ _ _ _ hg4 h hP hD hS (dt_bc_BP_unitEndsAt 16 rfl)
  · replace h := (if_neg hc).symm.trans h
    refine lv_iconst (v := 0) hx hb (dt_bc_BP_unitEndsAt 3 rfl) (by decide) ?_
    obtain ⟨hg5, h⟩ := bp_g_s h
    exact hret _ _ _ _ _ _ hg5 h hP hD hS (dt_bc_BP_unitEndsAt 4 rfl)
set_option maxHeartbeats 4000000 in
set_option maxRecDepth 100000 in
theorem wbc_BR_open (l : Launch) (E : bc_E) (N : Nat) (a1 : Nat) (a2 : Int32) (m : bp_M) (sz : Nat) (mr : bp_M)  (h : bc_BR_open N a1 a2 m = some mr) : Met l y_bc_BR_open (Cond.code y_bc_BR_open prog_2_method_2_code 4 none :: bp_tb) ({ frames := 1, cells := 0, slots := 0, locals := 40 }) (bc_Pc E m sz [.ref (E.2.1 6), .ref (E.2.1 a1), .int a2]) (bc_Qv E m sz mr) 0 0 (va_A (bc_W E m) sz) := by
  refine Met.ofW (cc := prog_2_method_2_code) (maxL := 4) (ret := none) (by decide) rfl ?_
  intro p e s mt args below meth c s₁ B hml hv
  obtain ⟨rfl, hsz, hP, hK, hD0, hst⟩ := hv
  have hx := B.exec
  have hb := B.bytes
  have hr := B.returns
  have htb : ∀ w ∈ bp_tb, w.before _ s = true := fun w hw => atoms_spec (ws := Cond.code y_bc_BR_open prog_2_method_2_code 4 none :: bp_tb) B.pre w (List.mem_cons_of_mem _ hw)
  have hown : s.vm.findClass "BlockPictures$BitReader" = some mt.cls := findClass_of_methodNamed B.named
  have hlocks := B.notSynchronized
  subst hsz
  have hD := hD0.self (sz := s.heap.size)
  generalize hAe : va_A (bc_W E m) s.heap.size = A at hD hst ⊢
  have hsub : ∀ (u : bp_M) (z q : Nat), s.heap.size ≤ z → va_A (bc_W E u) z q → A q := bc_sub hAe
  have hS : va_S A s.heap s.heap [] := va_S.rf
  have hl := lv_entry ([.ref (E.2.1 6), .ref (E.2.1 a1), .int a2]) (n := 4) (Nat.le_of_ble_eq_true rfl)
  rw [lg_entry_eq]
  generalize (lg_sl ([.ref (E.2.1 6), .ref (E.2.1 a1), .int a2]) ++ List.replicate (4 - (lg_sl ([.ref (E.2.1 6), .ref (E.2.1 a1), .int a2])).length) Slot.unset).toArray = ls at hl ⊢
  have hl : lv_has ls 4 [(0, .ref (E.2.1 6)), (1, .ref (E.2.1 a1)), (2, .int a2)] := hl
  refine bc_keyV (R := ({ frames := 1, cells := 0, slots := 0, locals := 40 })) E hx hb hr hlocks hK hAe (fun Q hret => ?_)
  clear B hD0 hlocks hr
  generalize ([.ref (E.2.1 6), .ref (E.2.1 a1), .int a2] : List Value).toArray = args at htb hret ⊢
  clear hAe
  have hL81 : ∀ (m : bp_M), bc_BR_open_L81 N a1 a2 m = some mr → ∀ (ls : Array Slot) (H : Heap) (locs : List Loc), lv_has ls 4 [] → va_P E.1 bp_cl (bc_W E m) H → va_D A (bc_W E m) → va_S A s.heap H locs → W p l e ({ frames := 1, cells := 0, slots := 0, locals := 40 }) s mt args below meth c H locs 0 0 Q (F0 mt 81 ls []) := by
    intro m h ls H locs hl hP hD hS
    rw [bc_BR_open_L81] at h
    exact hret _ _ _ _ _ h hP hD hS (dt_bc_BR_open 50 rfl)
  have hL34 : ∀ (n34 : Nat) (x3 : Int32) (m : bp_M), bc_BR_open_L34 N a1 a2 n34 x3 m = some mr → ∀ (ls : Array Slot) (H : Heap) (locs : List Loc), lv_has ls 4 [(0, .ref (E.2.1 6)), (3, .int x3)] → va_P E.1 bp_cl (bc_W E m) H → va_D A (bc_W E m) → va_S A s.heap H locs → W p l e ({ frames := 1, cells := 0, slots := 0, locals := 40 }) s mt args below meth c H locs 0 0 Q (F0 mt 34 ls []) := by
    intro n34
    induction n34 with
    | zero =>
      intro x3 m h ls H locs hl hP hD hS
      rw [bc_BR_open_L34] at h
      cases h
    | succ n34 ih34 =>
      have hL75 : ∀ (x3 : Int32) (m : bp_M), bc_BR_open_L75 (bc_BR_open_L34 N a1 a2 n34) N a1 a2 x3 m = some mr → ∀ (ls : Array Slot) (H : Heap) (locs : List Loc), lv_has ls 4 [(0, .ref (E.2.1 6)), (3, .int x3)] → va_P E.1 bp_cl (bc_W E m) H → va_D A (bc_W E m) → va_S A s.heap H locs → W p l e ({ frames := 1, cells := 0, slots := 0, locals := 40 }) s mt args below meth c H locs 0 0 Q (F0 mt 75 ls []) := by
        intro x3 m h ls H locs hl hP hD hS
        rw [bc_BR_open_L75] at h
        obtain ⟨y1, ey1⟩ : ∃ z : Int32, z = x3 + (-1) := ⟨_, rfl⟩
        replace h := bp_nI_s h ey1
        refine lv_iinc (k := 1) (v := y1) hx hb (dt_bc_BR_open 48 rfl) hl rfl (by rw [ey1]; rfl) (Nat.le_of_ble_eq_true rfl) rfl (fun ls hl => ?_)
        have hl : lv_has ls 4 [(3, .int y1), (0, .ref (E.2.1 6))] := hl
        refine lv_goto (tgt := 34) hx hb (dt_bc_BR_open 49 rfl) (by decide) ?_
        exact ih34 _ _ h ls H locs (lv_sub hl [1, 0] rfl) hP hD hS
      intro x3 m h ls H locs hl hP hD hS
      rw [bc_BR_open_L34] at h
      refine lv_iload_n hx hb (dt_bc_BR_open 22 rfl) rfl (lv_at hl 1 rfl) ?_
      refine lv_bipush (v := 8) hx hb (dt_bc_BR_open 23 rfl) (by decide) ?_
      refine lv_icmp_lt (tgt := 81) hx hb (dt_bc_BR_open 24 rfl) (by decide) (fun hc => ?_) (fun hc => ?_)
      · replace h := (if_pos hc).symm.trans h
        exact hL81 _ h ls H locs (lv_sub hl [] rfl) hP hD hS
      · replace h := (if_neg hc).symm.trans h
        refine lv_aload_n hx hb (dt_bc_BR_open 25 rfl) rfl (lv_at hl 0 rfl) ?_
        refine va_get (D := E.1) (ci := 6) (v := .int (m.1 6 2)) (C := "BlockPictures$BitReader") (T := bF_BR) (N := 4) hx hb htb bc_in_BR hown hK hP 6 (bc_gBR E m) rfl 2 (by decide) (htb _ tw_163) (fun _ h9 => h9) rfl (dt_bc_BR_open 26 rfl) ?_
        refine lv_iconst (v := (-1)) hx hb (dt_bc_BR_open 27 rfl) (by decide) ?_
        refine lv_icmp_ne (tgt := 81) hx hb (dt_bc_BR_open 28 rfl) (by decide) (fun hc => ?_) (fun hc => ?_)
        · replace h := (if_pos hc).symm.trans h
          exact hL81 _ h ls H locs (lv_sub hl [] rfl) hP hD hS
        · replace h := (if_neg (fun hn => hn hc)).symm.trans h
          refine lv_aload_n hx hb (dt_bc_BR_open 29 rfl) rfl (lv_at hl 0 rfl) ?_
          refine va_get (D := E.1) (ci := 6) (v := .ref (E.2.1 16)) (C := "BlockPictures$BitReader") (T := bF_BR) (N := 4) hx hb htb bc_in_BR hown hK hP 6 (bc_gBR E m) rfl 0 (by decide) (htb _ tw_161) (fun _ h9 => h9) rfl (dt_bc_BR_open 30 rfl) ?_
          refine lv_iload_n hx hb (dt_bc_BR_open 31 rfl) rfl (lv_at hl 1 rfl) ?_
          refine lv_iconst (v := 3) hx hb (dt_bc_BR_open 32 rfl) (by decide) ?_
          refine lv_ishr hx hb (dt_bc_BR_open 33 rfl) ?_
          obtain ⟨hg1, h⟩ := bp_gi_s h
          refine bc_lI E hx hb hK hP (bc_ga16 E) hg1 (dt_bc_BR_open 34 rfl) ?_
          refine lv_bipush (v := 7) hx hb (dt_bc_BR_open 35 rfl) (by decide) ?_
          refine lv_iload_n hx hb (dt_bc_BR_open 36 rfl) rfl (lv_at hl 1 rfl) ?_
          refine lv_bipush (v := 7) hx hb (dt_bc_BR_open 37 rfl) (by decide) ?_
          refine lv_iand hx hb (dt_bc_BR_open 38 rfl) ?_
          refine lv_isub hx hb (dt_bc_BR_open 39 rfl) ?_
          refine lv_ishr hx hb (dt_bc_BR_open 40 rfl) ?_
          refine lv_iconst (v := 1) hx hb (dt_bc_BR_open 41 rfl) (by decide) ?_
          refine lv_iand hx hb (dt_bc_BR_open 42 rfl) ?_
          refine lv_iconst (v := 1) hx hb (dt_bc_BR_open 43 rfl) (by decide) ?_
          refine lv_icmp_ne (tgt := 75) hx hb (dt_bc_BR_open 44 rfl) (by decide) (fun hc => ?_) (fun hc => ?_)
          · replace h := (if_pos hc).symm.trans h
            exact hL75 _ _ h ls H locs (lv_sub hl [0, 1] rfl) hP hD hS
          · replace h := (if_neg (fun hn => hn hc)).symm.trans h
            refine lv_aload_n hx hb (dt_bc_BR_open 45 rfl) rfl (lv_at hl 0 rfl) ?_
            refine lv_iload_n hx hb (dt_bc_BR_open 46 rfl) rfl (lv_at hl 1 rfl) ?_
            refine bc_pBR_2 E hx hb htb hown hK hP hD hS (htb _ tw_163) (dt_bc_BR_open 47 rfl) (fun m2 em2 H locs hP hD hS => ?_)
            replace h := bp_nM_s h em2
            exact hL75 _ _ h ls H locs (lv_sub hl [0, 1] rfl) hP hD hS
  suffices hgo : ∀ (H : Heap) (locs : List Loc), va_P E.1 bp_cl (bc_W E m) H → va_D A (bc_W E m) → va_S A s.heap H locs → W p l e ({ frames := 1, cells := 0, slots := 0, locals := 40 }) s mt args below meth c H locs 0 0 Q (F0 mt 0 ls []) from hgo _ _ hP hD hS
  clear hP hD hS
  intro H locs hP hD hS
  unfold bc_BR_open at h
  refine lv_aload_n hx hb (dt_bc_BR_open 0 rfl) rfl (lv_at hl 1 rfl) ?_
  refine lv_iconst (v := 0) hx hb (dt_bc_BR_open 1 rfl) (by decide) ?_
  refine lv_aload_n hx hb (dt_bc_BR_open 2 rfl) rfl (lv_at hl 0 rfl) ?_
  refine va_get (D := E.1) (ci := 6) (v := .ref (E.2.1 16)) (C := "BlockPictures$BitReader") (T := bF_BR) (N := 4) hx hb htb bc_in_BR hown hK hP 6 (bc_gBR E m) rfl 0 (by decide) (htb _ tw_161) (fun _ h9 => h9) rfl (dt_bc_BR_open 3 rfl) ?_
  refine lv_iconst (v := 0) hx hb (dt_bc_BR_open 4 rfl) (by decide) ?_
  refine lv_iload_n hx hb (dt_bc_BR_open 5 rfl) rfl (lv_at hl 2 rfl) ?_
  obtain ⟨hg1, h⟩ := bp_g_s h
  obtain ⟨hg2, h⟩ := bp_g_s h
  refine bc_cpy E hx hb (hml.trans hl.1.symm) hown (htb _ tw_417) (htb _ tw_419) (htb _ tw_418) (htb _ tw_80) hK hP hD hS (bc_gisI E hg1) (bc_ga16 E) hg2 (Nat.le_of_ble_eq_true rfl) (Nat.le_of_ble_eq_true rfl) (dt_bc_BR_open 6 rfl) (fun m3 em3 H locs hP hD hS => ?_)
  replace h := bp_nM_s h em3
  refine lv_aload_n hx hb (dt_bc_BR_open 7 rfl) rfl (lv_at hl 0 rfl) ?_
  refine lv_iconst (v := 0) hx hb (dt_bc_BR_open 8 rfl) (by decide) ?_
  refine bc_pBR_3 E hx hb htb hown hK hP hD hS (htb _ tw_164) (dt_bc_BR_open 9 rfl) (fun m4 em4 H locs hP hD hS => ?_)
  replace h := bp_nM_s h em4
  refine lv_aload_n hx hb (dt_bc_BR_open 10 rfl) rfl (lv_at hl 0 rfl) ?_
  refine lv_bipush (v := 8) hx hb (dt_bc_BR_open 11 rfl) (by decide) ?_
  refine bc_pBR_1 E hx hb htb hown hK hP hD hS (htb _ tw_162) (dt_bc_BR_open 12 rfl) (fun m5 em5 H locs hP hD hS => ?_)
  replace h := bp_nM_s h em5
  refine lv_aload_n hx hb (dt_bc_BR_open 13 rfl) rfl (lv_at hl 0 rfl) ?_
  refine lv_iconst (v := (-1)) hx hb (dt_bc_BR_open 14 rfl) (by decide) ?_
  refine bc_pBR_2 E hx hb htb hown hK hP hD hS (htb _ tw_163) (dt_bc_BR_open 15 rfl) (fun m6 em6 H locs hP hD hS => ?_)
  replace h := bp_nM_s h em6
  refine lv_bipush (v := 8) hx hb (dt_bc_BR_open 16 rfl) (by decide) ?_
  refine lv_iload_n hx hb (dt_bc_BR_open 17 rfl) rfl (lv_at hl 2 rfl) ?_
  refine lv_imul hx hb (dt_bc_BR_open 18 rfl) ?_
  refine lv_iconst (v := 1) hx hb (dt_bc_BR_open 19 rfl) (by decide) ?_
  refine lv_isub hx hb (dt_bc_BR_open 20 rfl) ?_
  refine lv_topi (fun y7 ey7 => ?_)
  replace h := bp_nI_s h ey7
  refine lv_istore_n hx hb (dt_bc_BR_open 21 rfl) rfl hl (Nat.le_of_ble_eq_true rfl) rfl (fun ls hl => ?_)
  have hl : lv_has ls 4 [(3, .int y7), (0, .ref (E.2.1 6)), (1, .ref (E.2.1 a1)), (2, .int a2)] := hl
  exact hL34 _ _ _ h ls H locs (lv_sub hl [1, 0] rfl) hP hD hS
set_option maxHeartbeats 4000000 in
set_option maxRecDepth 100000 in
theorem wbc_BR_fail (l : Launch) (E : bc_E) (N : Nat) (a1 : Int32) (m : bp_M) (sz : Nat) (mr : bp_M)  (h : bc_BR_fail N a1 m = some mr) : Met l y_bc_BR_fail (Cond.code y_bc_BR_fail prog_2_method_3_code 2 none :: bp_tb) ({ frames := 0, cells := 0, slots := 0, locals := 0 }) (bc_Pc E m sz [.ref (E.2.1 6), .int a1]) (bc_Qv E m sz mr) 0 0 (va_A (bc_W E m) sz) := by
  refine Met.ofW (cc := prog_2_method_3_code) (maxL := 2) (ret := none) (by decide) rfl ?_
  intro p e s mt args below meth c s₁ B hml hv
  obtain ⟨rfl, hsz, hP, hK, hD0, hst⟩ := hv
  have hx := B.exec
  have hb := B.bytes
  have hr := B.returns
  have htb : ∀ w ∈ bp_tb, w.before _ s = true := fun w hw => atoms_spec (ws := Cond.code y_bc_BR_fail prog_2_method_3_code 2 none :: bp_tb) B.pre w (List.mem_cons_of_mem _ hw)
  have hown : s.vm.findClass "BlockPictures$BitReader" = some mt.cls := findClass_of_methodNamed B.named
  have hlocks := B.notSynchronized
  subst hsz
  have hD := hD0.self (sz := s.heap.size)
  generalize hAe : va_A (bc_W E m) s.heap.size = A at hD hst ⊢
  have hsub : ∀ (u : bp_M) (z q : Nat), s.heap.size ≤ z → va_A (bc_W E u) z q → A q := bc_sub hAe
  have hS : va_S A s.heap s.heap [] := va_S.rf
  have hl := lv_entry ([.ref (E.2.1 6), .int a1]) (n := 2) (Nat.le_of_ble_eq_true rfl)
  rw [lg_entry_eq]
  generalize (lg_sl ([.ref (E.2.1 6), .int a1]) ++ List.replicate (2 - (lg_sl ([.ref (E.2.1 6), .int a1])).length) Slot.unset).toArray = ls at hl ⊢
  have hl : lv_has ls 2 [(0, .ref (E.2.1 6)), (1, .int a1)] := hl
  refine bc_keyV (R := ({ frames := 0, cells := 0, slots := 0, locals := 0 })) E hx hb hr hlocks hK hAe (fun Q hret => ?_)
  clear B hD0 hlocks hr
  generalize ([.ref (E.2.1 6), .int a1] : List Value).toArray = args at htb hret ⊢
  clear hAe
  have hL12 : ∀ (m : bp_M), bc_BR_fail_L12 N a1 m = some mr → ∀ (ls : Array Slot) (H : Heap) (locs : List Loc), lv_has ls 2 [] → va_P E.1 bp_cl (bc_W E m) H → va_D A (bc_W E m) → va_S A s.heap H locs → W p l e ({ frames := 0, cells := 0, slots := 0, locals := 0 }) s mt args below meth c H locs 0 0 Q (F0 mt 12 ls []) := by
    intro m h ls H locs hl hP hD hS
    rw [bc_BR_fail_L12] at h
    exact hret _ _ _ _ _ h hP hD hS (dt_bc_BR_fail 6 rfl)
  suffices hgo : ∀ (H : Heap) (locs : List Loc), va_P E.1 bp_cl (bc_W E m) H → va_D A (bc_W E m) → va_S A s.heap H locs → W p l e ({ frames := 0, cells := 0, slots := 0, locals := 0 }) s mt args below meth c H locs 0 0 Q (F0 mt 0 ls []) from hgo _ _ hP hD hS
  clear hP hD hS
  intro H locs hP hD hS
  unfold bc_BR_fail at h
  refine lv_aload_n hx hb (dt_bc_BR_fail 0 rfl) rfl (lv_at hl 0 rfl) ?_
  refine va_get (D := E.1) (ci := 6) (v := .int (m.1 6 3)) (C := "BlockPictures$BitReader") (T := bF_BR) (N := 4) hx hb htb bc_in_BR hown hK hP 6 (bc_gBR E m) rfl 3 (by decide) (htb _ tw_164) (fun _ h9 => h9) rfl (dt_bc_BR_fail 1 rfl) ?_
  refine lv_if_ne (tgt := 12) hx hb (dt_bc_BR_fail 2 rfl) (by decide) (fun hc => ?_) (fun hc => ?_)
  · replace h := (if_pos hc).symm.trans h
    exact hL12 _ h ls H locs (lv_sub hl [] rfl) hP hD hS
  · replace h := (if_neg (fun hn => hn hc)).symm.trans h
    refine lv_aload_n hx hb (dt_bc_BR_fail 3 rfl) rfl (lv_at hl 0 rfl) ?_
    refine lv_iload_n hx hb (dt_bc_BR_fail 4 rfl) rfl (lv_at hl 1 rfl) ?_
    refine bc_pBR_3 E hx hb htb hown hK hP hD hS (htb _ tw_164) (dt_bc_BR_fail 5 rfl) (fun m1 em1 H locs hP hD hS => ?_)
    replace h := bp_nM_s h em1
    exact hL12 _ h ls H locs (lv_sub hl [] rfl) hP hD hS
set_option maxHeartbeats 4000000 in
set_option maxRecDepth 100000 in
theorem wbc_BR_needMark (l : Launch) (E : bc_E) (N : Nat)  (m : bp_M) (sz : Nat) (mr : bp_M)  (h : bc_BR_needMark N m = some mr) : Met l y_bc_BR_needMark (Cond.code y_bc_BR_needMark prog_2_method_4_code 1 none :: bp_tb) ({ frames := 1, cells := 0, slots := 0, locals := 21 }) (bc_Pc E m sz [.ref (E.2.1 6)]) (bc_Qv E m sz mr) 0 0 (va_A (bc_W E m) sz) := by
  refine Met.ofW (cc := prog_2_method_4_code) (maxL := 1) (ret := none) (by decide) rfl ?_
  intro p e s mt args below meth c s₁ B hml hv
  obtain ⟨rfl, hsz, hP, hK, hD0, hst⟩ := hv
  have hx := B.exec
  have hb := B.bytes
  have hr := B.returns
  have htb : ∀ w ∈ bp_tb, w.before _ s = true := fun w hw => atoms_spec (ws := Cond.code y_bc_BR_needMark prog_2_method_4_code 1 none :: bp_tb) B.pre w (List.mem_cons_of_mem _ hw)
  have hown : s.vm.findClass "BlockPictures$BitReader" = some mt.cls := findClass_of_methodNamed B.named
  have hlocks := B.notSynchronized
  subst hsz
  have hD := hD0.self (sz := s.heap.size)
  generalize hAe : va_A (bc_W E m) s.heap.size = A at hD hst ⊢
  have hsub : ∀ (u : bp_M) (z q : Nat), s.heap.size ≤ z → va_A (bc_W E u) z q → A q := bc_sub hAe
  have hS : va_S A s.heap s.heap [] := va_S.rf
  have hl := lv_entry ([.ref (E.2.1 6)]) (n := 1) (Nat.le_of_ble_eq_true rfl)
  rw [lg_entry_eq]
  generalize (lg_sl ([.ref (E.2.1 6)]) ++ List.replicate (1 - (lg_sl ([.ref (E.2.1 6)])).length) Slot.unset).toArray = ls at hl ⊢
  have hl : lv_has ls 1 [(0, .ref (E.2.1 6))] := hl
  refine bc_keyV (R := ({ frames := 1, cells := 0, slots := 0, locals := 21 })) E hx hb hr hlocks hK hAe (fun Q hret => ?_)
  clear B hD0 hlocks hr
  generalize ([.ref (E.2.1 6)] : List Value).toArray = args at htb hret ⊢
  clear hAe
  have hL13 : ∀ (m : bp_M), bc_BR_needMark_L13 N m = some mr → ∀ (ls : Array Slot) (H : Heap) (locs : List Loc), lv_has ls 1 [] → va_P E.1 bp_cl (bc_W E m) H → va_D A (bc_W E m) → va_S A s.heap H locs → W p l e ({ frames := 1, cells := 0, slots := 0, locals := 21 }) s mt args below meth c H locs 0 0 Q (F0 mt 13 ls []) := by
    intro m h ls H locs hl hP hD hS
    rw [bc_BR_needMark_L13] at h
    exact hret _ _ _ _ _ h hP hD hS (dt_bc_BR_needMark 7 rfl)
  suffices hgo : ∀ (H : Heap) (locs : List Loc), va_P E.1 bp_cl (bc_W E m) H → va_D A (bc_W E m) → va_S A s.heap H locs → W p l e ({ frames := 1, cells := 0, slots := 0, locals := 21 }) s mt args below meth c H locs 0 0 Q (F0 mt 0 ls []) from hgo _ _ hP hD hS
  clear hP hD hS
  intro H locs hP hD hS
  unfold bc_BR_needMark at h
  refine lv_aload_n hx hb (dt_bc_BR_needMark 0 rfl) rfl (lv_at hl 0 rfl) ?_
  refine va_get (D := E.1) (ci := 6) (v := .int (m.1 6 2)) (C := "BlockPictures$BitReader") (T := bF_BR) (N := 4) hx hb htb bc_in_BR hown hK hP 6 (bc_gBR E m) rfl 2 (by decide) (htb _ tw_163) (fun _ h9 => h9) rfl (dt_bc_BR_needMark 1 rfl) ?_
  refine lv_iconst (v := (-1)) hx hb (dt_bc_BR_needMark 2 rfl) (by decide) ?_
  refine lv_icmp_ne (tgt := 13) hx hb (dt_bc_BR_needMark 3 rfl) (by decide) (fun hc => ?_) (fun hc => ?_)
  · replace h := (if_pos hc).symm.trans h
    exact hL13 _ h ls H locs (lv_sub hl [] rfl) hP hD hS
  · replace h := (if_neg (fun hn => hn hc)).symm.trans h
    refine lv_aload_n hx hb (dt_bc_BR_needMark 4 rfl) rfl (lv_at hl 0 rfl) ?_
    refine lv_iconst (v := 4) hx hb (dt_bc_BR_needMark 5 rfl) (by decide) ?_
    obtain ⟨m1, hm1, h⟩ := bp_cV_s h
    refine bc_callV E hsub hS (va_runV (As := [.int 4]) (rest := []) ⟨hx, hb, hml, hown, htb⟩ (wbc_BR_fail l E N 4 m H.size m1 hm1) (cwV 1 htb (bp_goodV tw_428 tw_421 tw_422 tw_73 tw_423) rfl rfl rfl ⟨rfl, hd_bc_BR_fail⟩ ⟨Nat.le_of_ble_eq_true rfl, Nat.le_of_ble_eq_true rfl⟩) (bc_preV E hsub hst hK hP hD hS (bc_gBR E m) rfl rfl _) rfl rfl hl.1 rfl (lv_room (Nat.le_of_ble_eq_true rfl)) (dt_bc_BR_needMark 6 rfl) ⟨Nat.zero_le _, Nat.zero_le _⟩) (fun H locs hP hD hS => ?_)
    exact hL13 _ h ls H locs (lv_sub hl [] rfl) hP hD hS
set_option maxHeartbeats 4000000 in
set_option maxRecDepth 100000 in
theorem wbc_BR_nextBit (l : Launch) (E : bc_E) (N : Nat)  (m : bp_M) (sz : Nat) (r : Int32) (mr : bp_M)  (h : bc_BR_nextBit N m = some (r, mr)) : Met l y_bc_BR_nextBit (Cond.code y_bc_BR_nextBit prog_2_method_10_code 2 (some .int) :: bp_tb) ({ frames := 0, cells := 0, slots := 0, locals := 0 }) (bc_Pc E m sz [.ref (E.2.1 6)]) (bc_Qi E m sz r mr) 0 0 (va_A (bc_W E m) sz) := by
  refine Met.ofW (cc := prog_2_method_10_code) (maxL := 2) (ret := (some .int)) (by decide) rfl ?_
  intro p e s mt args below meth c s₁ B hml hv
  obtain ⟨rfl, hsz, hP, hK, hD0, hst⟩ := hv
  have hx := B.exec
  have hb := B.bytes
  have hr := B.returns
  have htb : ∀ w ∈ bp_tb, w.before _ s = true := fun w hw => atoms_spec (ws := Cond.code y_bc_BR_nextBit prog_2_method_10_code 2 (some .int) :: bp_tb) B.pre w (List.mem_cons_of_mem _ hw)
  have hown : s.vm.findClass "BlockPictures$BitReader" = some mt.cls := findClass_of_methodNamed B.named
  have hlocks := B.notSynchronized
  subst hsz
  have hD := hD0.self (sz := s.heap.size)
  generalize hAe : va_A (bc_W E m) s.heap.size = A at hD hst ⊢
  have hsub : ∀ (u : bp_M) (z q : Nat), s.heap.size ≤ z → va_A (bc_W E u) z q → A q := bc_sub hAe
  have hS : va_S A s.heap s.heap [] := va_S.rf
  have hl := lv_entry ([.ref (E.2.1 6)]) (n := 2) (Nat.le_of_ble_eq_true rfl)
  rw [lg_entry_eq]
  generalize (lg_sl ([.ref (E.2.1 6)]) ++ List.replicate (2 - (lg_sl ([.ref (E.2.1 6)])).length) Slot.unset).toArray = ls at hl ⊢
  have hl : lv_has ls 2 [(0, .ref (E.2.1 6))] := hl
  refine bc_keyI (R := ({ frames := 0, cells := 0, slots := 0, locals := 0 })) E hx hb hr hlocks hK hAe (fun Q hret => ?_)
  clear B hD0 hlocks hr
  generalize ([.ref (E.2.1 6)] : List Value).toArray = args at htb hret ⊢
  clear hAe
  suffices hgo : ∀ (H : Heap) (locs : List Loc), va_P E.1 bp_cl (bc_W E m) H → va_D A (bc_W E m) → va_S A s.heap H locs → W p l e ({ frames := 0, cells := 0, slots := 0, locals := 0 }) s mt args below meth c H locs 0 0 Q (F0 mt 0 ls []) from hgo _ _ hP hD hS
  clear hP hD hS
  intro H locs hP hD hS
  unfold bc_BR_nextBit at h
  refine lv_aload_n hx hb (dt_bc_BR_nextBit 0 rfl) rfl (lv_at hl 0 rfl) ?_
  refine va_get (D := E.1) (ci := 6) (v := .int (m.1 6 3)) (C := "BlockPictures$BitReader") (T := bF_BR) (N := 4) hx hb htb bc_in_BR hown hK hP 6 (bc_gBR E m) rfl 3 (by decide) (htb _ tw_164) (fun _ h9 => h9) rfl (dt_bc_BR_nextBit 1 rfl) ?_
  refine lv_if_eq (tgt := 9) hx hb (dt_bc_BR_nextBit 2 rfl) (by decide) (fun hc => ?_) (fun hc => ?_)
  · replace h := (if_pos hc).symm.trans h
    refine lv_aload_n hx hb (dt_bc_BR_nextBit 5 rfl) rfl (lv_at hl 0 rfl) ?_
    refine va_get (D := E.1) (ci := 6) (v := .int (m.1 6 1)) (C := "BlockPictures$BitReader") (T := bF_BR) (N := 4) hx hb htb bc_in_BR hown hK hP 6 (bc_gBR E m) rfl 1 (by decide) (htb _ tw_162) (fun _ h9 => h9) rfl (dt_bc_BR_nextBit 6 rfl) ?_
    refine lv_aload_n hx hb (dt_bc_BR_nextBit 7 rfl) rfl (lv_at hl 0 rfl) ?_
    refine va_get (D := E.1) (ci := 6) (v := .int (m.1 6 2)) (C := "BlockPictures$BitReader") (T := bF_BR) (N := 4) hx hb htb bc_in_BR hown hK hP 6 (bc_gBR E m) rfl 2 (by decide) (htb _ tw_163) (fun _ h9 => h9) rfl (dt_bc_BR_nextBit 8 rfl) ?_
    refine lv_icmp_lt (tgt := 27) hx hb (dt_bc_BR_nextBit 9 rfl) (by decide) (fun hc => ?_) (fun hc => ?_)
    · replace h := (if_pos hc).symm.trans h
      refine lv_aload_n hx hb (dt_bc_BR_nextBit 15 rfl) rfl (lv_at hl 0 rfl) ?_
      refine va_get (D := E.1) (ci := 6) (v := .ref (E.2.1 16)) (C := "BlockPictures$BitReader") (T := bF_BR) (N := 4) hx hb htb bc_in_BR hown hK hP 6 (bc_gBR E m) rfl 0 (by decide) (htb _ tw_161) (fun _ h9 => h9) rfl (dt_bc_BR_nextBit 16 rfl) ?_
      refine lv_aload_n hx hb (dt_bc_BR_nextBit 17 rfl) rfl (lv_at hl 0 rfl) ?_
      refine va_get (D := E.1) (ci := 6) (v := .int (m.1 6 1)) (C := "BlockPictures$BitReader") (T := bF_BR) (N := 4) hx hb htb bc_in_BR hown hK hP 6 (bc_gBR E m) rfl 1 (by decide) (htb _ tw_162) (fun _ h9 => h9) rfl (dt_bc_BR_nextBit 18 rfl) ?_
      refine lv_iconst (v := 3) hx hb (dt_bc_BR_nextBit 19 rfl) (by decide) ?_
      refine lv_ishr hx hb (dt_bc_BR_nextBit 20 rfl) ?_
      obtain ⟨hg1, h⟩ := bp_gi_s h
      refine bc_lI E hx hb hK hP (bc_ga16 E) hg1 (dt_bc_BR_nextBit 21 rfl) ?_
      refine lv_bipush (v := 7) hx hb (dt_bc_BR_nextBit 22 rfl) (by decide) ?_
      refine lv_aload_n hx hb (dt_bc_BR_nextBit 23 rfl) rfl (lv_at hl 0 rfl) ?_
      refine va_get (D := E.1) (ci := 6) (v := .int (m.1 6 1)) (C := "BlockPictures$BitReader") (T := bF_BR) (N := 4) hx hb htb bc_in_BR hown hK hP 6 (bc_gBR E m) rfl 1 (by decide) (htb _ tw_162) (fun _ h9 => h9) rfl (dt_bc_BR_nextBit 24 rfl) ?_
      refine lv_bipush (v := 7) hx hb (dt_bc_BR_nextBit 25 rfl) (by decide) ?_
      refine lv_iand hx hb (dt_bc_BR_nextBit 26 rfl) ?_
      refine lv_isub hx hb (dt_bc_BR_nextBit 27 rfl) ?_
      refine lv_ishr hx hb (dt_bc_BR_nextBit 28 rfl) ?_
      refine lv_iconst (v := 1) hx hb (dt_bc_BR_nextBit 29 rfl) (by decide) ?_
      refine lv_iand hx hb (dt_bc_BR_nextBit 30 rfl) ?_
      refine lv_topi (fun y2 ey2 => ?_)
      replace h := bp_nI_s h ey2
      refine lv_istore_n hx hb (dt_bc_BR_nextBit 31 rfl) rfl hl (Nat.le_of_ble_eq_true rfl) rfl (fun ls hl => ?_)
      have hl : lv_has ls 2 [(1, .int y2), (0, .ref (E.2.1 6))] := hl
      refine lv_aload_n hx hb (dt_bc_BR_nextBit 32 rfl) rfl (lv_at hl 1 rfl) ?_
      refine lv_dup hx hb (dt_bc_BR_nextBit 33 rfl) rfl ?_
      refine va_get (D := E.1) (ci := 6) (v := .int (m.1 6 1)) (C := "BlockPictures$BitReader") (T := bF_BR) (N := 4) hx hb htb bc_in_BR hown hK hP 6 (bc_gBR E m) rfl 1 (by decide) (htb _ tw_162) (fun _ h9 => h9) rfl (dt_bc_BR_nextBit 34 rfl) ?_
      refine lv_iconst (v := 1) hx hb (dt_bc_BR_nextBit 35 rfl) (by decide) ?_
      refine lv_iadd hx hb (dt_bc_BR_nextBit 36 rfl) ?_
      refine bc_pBR_1 E hx hb htb hown hK hP hD hS (htb _ tw_162) (dt_bc_BR_nextBit 37 rfl) (fun m3 em3 H locs hP hD hS => ?_)
      replace h := bp_nM_s h em3
      refine lv_iload_n hx hb (dt_bc_BR_nextBit 38 rfl) rfl (lv_at hl 0 rfl) ?_
      exact hret _ _ _ _ _ _ h hP hD hS (dt_bc_BR_nextBit 39 rfl)
    · replace h := (if_neg hc).symm.trans h
      refine lv_aload_n hx hb (dt_bc_BR_nextBit 10 rfl) rfl (lv_at hl 0 rfl) ?_
      refine lv_iconst (v := 4) hx hb (dt_bc_BR_nextBit 11 rfl) (by decide) ?_
      refine bc_pBR_3 E hx hb htb hown hK hP hD hS (htb _ tw_164) (dt_bc_BR_nextBit 12 rfl) (fun m4 em4 H locs hP hD hS => ?_)
      replace h := bp_nM_s h em4
      refine lv_iconst (v := 0) hx hb (dt_bc_BR_nextBit 13 rfl) (by decide) ?_
      exact hret _ _ _ _ _ _ h hP hD hS (dt_bc_BR_nextBit 14 rfl)
  · replace h := (if_neg hc).symm.trans h
    refine lv_iconst (v := 0) hx hb (dt_bc_BR_nextBit 3 rfl) (by decide) ?_
    exact hret _ _ _ _ _ _ h hP hD hS (dt_bc_BR_nextBit 4 rfl)
set_option maxHeartbeats 4000000 in
set_option maxRecDepth 100000 in
theorem wbc_BR_number (l : Launch) (E : bc_E) (N : Nat) (a1 : Int32) (a2 : Int32) (m : bp_M) (sz : Nat) (r : Int32) (mr : bp_M)  (h : bc_BR_number N a1 a2 m = some (r, mr)) : Met l y_bc_BR_number (Cond.code y_bc_BR_number prog_2_method_8_code 6 (some .int) :: bp_tb) ({ frames := 1, cells := 0, slots := 0, locals := 21 }) (bc_Pc E m sz [.ref (E.2.1 6), .int a1, .int a2]) (bc_Qi E m sz r mr) 0 0 (va_A (bc_W E m) sz) := by
  refine Met.ofW (cc := prog_2_method_8_code) (maxL := 6) (ret := (some .int)) (by decide) rfl ?_
  intro p e s mt args below meth c s₁ B hml hv
  obtain ⟨rfl, hsz, hP, hK, hD0, hst⟩ := hv
  have hx := B.exec
  have hb := B.bytes
  have hr := B.returns
  have htb : ∀ w ∈ bp_tb, w.before _ s = true := fun w hw => atoms_spec (ws := Cond.code y_bc_BR_number prog_2_method_8_code 6 (some .int) :: bp_tb) B.pre w (List.mem_cons_of_mem _ hw)
  have hown : s.vm.findClass "BlockPictures$BitReader" = some mt.cls := findClass_of_methodNamed B.named
  have hlocks := B.notSynchronized
  subst hsz
  have hD := hD0.self (sz := s.heap.size)
  generalize hAe : va_A (bc_W E m) s.heap.size = A at hD hst ⊢
  have hsub : ∀ (u : bp_M) (z q : Nat), s.heap.size ≤ z → va_A (bc_W E u) z q → A q := bc_sub hAe
  have hS : va_S A s.heap s.heap [] := va_S.rf
  have hl := lv_entry ([.ref (E.2.1 6), .int a1, .int a2]) (n := 6) (Nat.le_of_ble_eq_true rfl)
  rw [lg_entry_eq]
  generalize (lg_sl ([.ref (E.2.1 6), .int a1, .int a2]) ++ List.replicate (6 - (lg_sl ([.ref (E.2.1 6), .int a1, .int a2])).length) Slot.unset).toArray = ls at hl ⊢
  have hl : lv_has ls 6 [(0, .ref (E.2.1 6)), (1, .int a1), (2, .int a2)] := hl
  refine bc_keyI (R := ({ frames := 1, cells := 0, slots := 0, locals := 21 })) E hx hb hr hlocks hK hAe (fun Q hret => ?_)
  clear B hD0 hlocks hr
  generalize ([.ref (E.2.1 6), .int a1, .int a2] : List Value).toArray = args at htb hret ⊢
  clear hAe
  have hL102 : ∀ (s0 : Int32) (m : bp_M), bc_BR_number_L102 N a1 a2 s0 m = some (r, mr) → ∀ (ls : Array Slot) (H : Heap) (locs : List Loc), lv_has ls 6 [] → va_P E.1 bp_cl (bc_W E m) H → va_D A (bc_W E m) → va_S A s.heap H locs → W p l e ({ frames := 1, cells := 0, slots := 0, locals := 21 }) s mt args below meth c H locs 0 0 Q (F0 mt 102 ls [.int s0]) := by
    intro s0 m h ls H locs hl hP hD hS
    rw [bc_BR_number_L102] at h
    exact hret _ _ _ _ _ _ h hP hD hS (dt_bc_BR_number 55 rfl)
  have hL89 : ∀ (x5 : Int32) (m : bp_M), bc_BR_number_L89 N a1 a2 x5 m = some (r, mr) → ∀ (ls : Array Slot) (H : Heap) (locs : List Loc), lv_has ls 6 [(0, .ref (E.2.1 6)), (5, .int x5)] → va_P E.1 bp_cl (bc_W E m) H → va_D A (bc_W E m) → va_S A s.heap H locs → W p l e ({ frames := 1, cells := 0, slots := 0, locals := 21 }) s mt args below meth c H locs 0 0 Q (F0 mt 89 ls []) := by
    intro x5 m h ls H locs hl hP hD hS
    rw [bc_BR_number_L89] at h
    refine lv_aload_n hx hb (dt_bc_BR_number 49 rfl) rfl (lv_at hl 0 rfl) ?_
    refine va_get (D := E.1) (ci := 6) (v := .int (m.1 6 3)) (C := "BlockPictures$BitReader") (T := bF_BR) (N := 4) hx hb htb bc_in_BR hown hK hP 6 (bc_gBR E m) rfl 3 (by decide) (htb _ tw_164) (fun _ h9 => h9) rfl (dt_bc_BR_number 50 rfl) ?_
    refine lv_if_ne (tgt := 101) hx hb (dt_bc_BR_number 51 rfl) (by decide) (fun hc => ?_) (fun hc => ?_)
    · replace h := (if_pos hc).symm.trans h
      refine lv_iconst (v := 0) hx hb (dt_bc_BR_number 54 rfl) (by decide) ?_
      exact hL102 _ _ h ls H locs (lv_sub hl [] rfl) hP hD hS
    · replace h := (if_neg (fun hn => hn hc)).symm.trans h
      refine lv_iload hx hb (dt_bc_BR_number 52 rfl) (lv_at hl 1 rfl) ?_
      refine lv_goto (tgt := 102) hx hb (dt_bc_BR_number 53 rfl) (by decide) ?_
      exact hL102 _ _ h ls H locs (lv_sub hl [] rfl) hP hD hS
  have hL68 : ∀ (x3 : Int32) (x4 : Int32) (m : bp_M), bc_BR_number_L68 N a1 a2 x3 x4 m = some (r, mr) → ∀ (ls : Array Slot) (H : Heap) (locs : List Loc), lv_has ls 6 [(0, .ref (E.2.1 6)), (1, .int a1), (2, .int a2), (3, .int x3), (4, .int x4)] → va_P E.1 bp_cl (bc_W E m) H → va_D A (bc_W E m) → va_S A s.heap H locs → W p l e ({ frames := 1, cells := 0, slots := 0, locals := 21 }) s mt args below meth c H locs 0 0 Q (F0 mt 68 ls []) := by
    intro x3 x4 m h ls H locs hl hP hD hS
    rw [bc_BR_number_L68] at h
    refine lv_iconst (v := 1) hx hb (dt_bc_BR_number 35 rfl) (by decide) ?_
    refine lv_iload_n hx hb (dt_bc_BR_number 36 rfl) rfl (lv_at hl 3 rfl) ?_
    refine lv_ishl hx hb (dt_bc_BR_number 37 rfl) ?_
    refine lv_iconst (v := 1) hx hb (dt_bc_BR_number 38 rfl) (by decide) ?_
    refine lv_isub hx hb (dt_bc_BR_number 39 rfl) ?_
    refine lv_iload hx hb (dt_bc_BR_number 40 rfl) (lv_at hl 4 rfl) ?_
    refine lv_iadd hx hb (dt_bc_BR_number 41 rfl) ?_
    refine lv_topi (fun y1 ey1 => ?_)
    replace h := bp_nI_s h ey1
    refine lv_istore hx hb (dt_bc_BR_number 42 rfl) hl (Nat.le_of_ble_eq_true rfl) rfl (fun ls hl => ?_)
    have hl : lv_has ls 6 [(5, .int y1), (0, .ref (E.2.1 6)), (1, .int a1), (2, .int a2), (3, .int x3), (4, .int x4)] := hl
    refine lv_iload hx hb (dt_bc_BR_number 43 rfl) (lv_at hl 0 rfl) ?_
    refine lv_iload_n hx hb (dt_bc_BR_number 44 rfl) rfl (lv_at hl 2 rfl) ?_
    refine lv_icmp_le (tgt := 89) hx hb (dt_bc_BR_number 45 rfl) (by decide) (fun hc => ?_) (fun hc => ?_)
    · replace h := (if_pos hc).symm.trans h
      exact hL89 _ _ h ls H locs (lv_sub hl [1, 0] rfl) hP hD hS
    · replace h := (if_neg hc).symm.trans h
      refine lv_aload_n hx hb (dt_bc_BR_number 46 rfl) rfl (lv_at hl 1 rfl) ?_
      refine lv_iload_n hx hb (dt_bc_BR_number 47 rfl) rfl (lv_at hl 3 rfl) ?_
      obtain ⟨m2, hm2, h⟩ := bp_cV_s h
      refine bc_callV E hsub hS (va_runV (As := [.int a2]) (rest := []) ⟨hx, hb, hml, hown, htb⟩ (wbc_BR_fail l E N a2 m H.size m2 hm2) (cwV 1 htb (bp_goodV tw_428 tw_421 tw_422 tw_73 tw_423) rfl rfl rfl ⟨rfl, hd_bc_BR_fail⟩ ⟨Nat.le_of_ble_eq_true rfl, Nat.le_of_ble_eq_true rfl⟩) (bc_preV E hsub hst hK hP hD hS (bc_gBR E m) rfl rfl _) rfl rfl hl.1 rfl (lv_room (Nat.le_of_ble_eq_true rfl)) (dt_bc_BR_number 48 rfl) ⟨Nat.zero_le _, Nat.zero_le _⟩) (fun H locs hP hD hS => ?_)
      exact hL89 _ _ h ls H locs (lv_sub hl [1, 0] rfl) hP hD hS
  have hL45 : ∀ (n45 : Nat) (x3 : Int32) (x4 : Int32) (x5 : Int32) (m : bp_M), bc_BR_number_L45 N a1 a2 n45 x3 x4 x5 m = some (r, mr) → ∀ (ls : Array Slot) (H : Heap) (locs : List Loc), lv_has ls 6 [(0, .ref (E.2.1 6)), (1, .int a1), (2, .int a2), (3, .int x3), (4, .int x4), (5, .int x5)] → va_P E.1 bp_cl (bc_W E m) H → va_D A (bc_W E m) → va_S A s.heap H locs → W p l e ({ frames := 1, cells := 0, slots := 0, locals := 21 }) s mt args below meth c H locs 0 0 Q (F0 mt 45 ls []) := by
    intro n45
    induction n45 with
    | zero =>
      intro x3 x4 x5 m h ls H locs hl hP hD hS
      rw [bc_BR_number_L45] at h
      cases h
    | succ n45 ih45 =>
      intro x3 x4 x5 m h ls H locs hl hP hD hS
      rw [bc_BR_number_L45] at h
      refine lv_iload hx hb (dt_bc_BR_number 23 rfl) (lv_at hl 5 rfl) ?_
      refine lv_iload_n hx hb (dt_bc_BR_number 24 rfl) rfl (lv_at hl 3 rfl) ?_
      refine lv_icmp_ge (tgt := 68) hx hb (dt_bc_BR_number 25 rfl) (by decide) (fun hc => ?_) (fun hc => ?_)
      · replace h := (if_pos hc).symm.trans h
        exact hL68 _ _ _ h ls H locs (lv_sub hl [0, 1, 2, 3, 4] rfl) hP hD hS
      · replace h := (if_neg hc).symm.trans h
        refine lv_iconst (v := 2) hx hb (dt_bc_BR_number 26 rfl) (by decide) ?_
        refine lv_iload hx hb (dt_bc_BR_number 27 rfl) (lv_at hl 4 rfl) ?_
        refine lv_imul hx hb (dt_bc_BR_number 28 rfl) ?_
        refine lv_aload_n hx hb (dt_bc_BR_number 29 rfl) rfl (lv_at hl 0 rfl) ?_
        obtain ⟨z2, m1, hm1, h⟩ := bp_cI_s h
        refine bc_callI E hsub hS (va_runV (As := []) (rest := [.int (2 * x4 : Int32)]) ⟨hx, hb, hml, hown, htb⟩ (wbc_BR_nextBit l E N  m H.size z2 m1 hm1) (cwV 0 htb (bp_goodV tw_437 tw_439 tw_6 tw_73 tw_440) rfl rfl rfl ⟨rfl, hd_bc_BR_nextBit⟩ ⟨Nat.le_of_ble_eq_true rfl, Nat.le_of_ble_eq_true rfl⟩) (bc_preV E hsub hst hK hP hD hS (bc_gBR E m) rfl rfl _) rfl rfl hl.1 rfl (lv_room (Nat.le_of_ble_eq_true rfl)) (dt_bc_BR_number 30 rfl) ⟨Nat.zero_le _, Nat.zero_le _⟩) (fun H locs hP hD hS => ?_)
        refine lv_iadd hx hb (dt_bc_BR_number 31 rfl) ?_
        refine lv_topi (fun y3 ey3 => ?_)
        replace h := bp_nI_s h ey3
        refine lv_istore hx hb (dt_bc_BR_number 32 rfl) hl (Nat.le_of_ble_eq_true rfl) rfl (fun ls hl => ?_)
        have hl : lv_has ls 6 [(4, .int y3), (0, .ref (E.2.1 6)), (1, .int a1), (2, .int a2), (3, .int x3), (5, .int x5)] := hl
        obtain ⟨y4, ey4⟩ : ∃ z : Int32, z = x5 + 1 := ⟨_, rfl⟩
        replace h := bp_nI_s h ey4
        refine lv_iinc (k := 5) (v := y4) hx hb (dt_bc_BR_number 33 rfl) hl rfl (by rw [ey4]; rfl) (Nat.le_of_ble_eq_true rfl) rfl (fun ls hl => ?_)
        have hl : lv_has ls 6 [(5, .int y4), (4, .int y3), (0, .ref (E.2.1 6)), (1, .int a1), (2, .int a2), (3, .int x3)] := hl
        refine lv_goto (tgt := 45) hx hb (dt_bc_BR_number 34 rfl) (by decide) ?_
        exact ih45 _ _ _ _ h ls H locs (lv_sub hl [2, 3, 4, 5, 1, 0] rfl) hP hD hS
  have hL39 : ∀ (x3 : Int32) (m : bp_M), bc_BR_number_L39 N a1 a2 x3 m = some (r, mr) → ∀ (ls : Array Slot) (H : Heap) (locs : List Loc), lv_has ls 6 [(0, .ref (E.2.1 6)), (1, .int a1), (2, .int a2), (3, .int x3)] → va_P E.1 bp_cl (bc_W E m) H → va_D A (bc_W E m) → va_S A s.heap H locs → W p l e ({ frames := 1, cells := 0, slots := 0, locals := 21 }) s mt args below meth c H locs 0 0 Q (F0 mt 39 ls []) := by
    intro x3 m h ls H locs hl hP hD hS
    rw [bc_BR_number_L39] at h
    refine lv_iconst (v := 0) hx hb (dt_bc_BR_number 19 rfl) (by decide) ?_
    refine lv_istore hx hb (dt_bc_BR_number 20 rfl) hl (Nat.le_of_ble_eq_true rfl) rfl (fun ls hl => ?_)
    have hl : lv_has ls 6 [(4, .int 0), (0, .ref (E.2.1 6)), (1, .int a1), (2, .int a2), (3, .int x3)] := hl
    refine lv_iconst (v := 0) hx hb (dt_bc_BR_number 21 rfl) (by decide) ?_
    refine lv_istore hx hb (dt_bc_BR_number 22 rfl) hl (Nat.le_of_ble_eq_true rfl) rfl (fun ls hl => ?_)
    have hl : lv_has ls 6 [(5, .int 0), (4, .int 0), (0, .ref (E.2.1 6)), (1, .int a1), (2, .int a2), (3, .int x3)] := hl
    exact hL45 _ _ _ _ _ h ls H locs (lv_sub hl [2, 3, 4, 5, 1, 0] rfl) hP hD hS
  have hL28 : ∀ (x3 : Int32) (m : bp_M), bc_BR_number_L28 N a1 a2 x3 m = some (r, mr) → ∀ (ls : Array Slot) (H : Heap) (locs : List Loc), lv_has ls 6 [(0, .ref (E.2.1 6)), (1, .int a1), (2, .int a2), (3, .int x3)] → va_P E.1 bp_cl (bc_W E m) H → va_D A (bc_W E m) → va_S A s.heap H locs → W p l e ({ frames := 1, cells := 0, slots := 0, locals := 21 }) s mt args below meth c H locs 0 0 Q (F0 mt 28 ls []) := by
    intro x3 m h ls H locs hl hP hD hS
    rw [bc_BR_number_L28] at h
    refine lv_iload_n hx hb (dt_bc_BR_number 13 rfl) rfl (lv_at hl 3 rfl) ?_
    refine lv_bipush (v := 10) hx hb (dt_bc_BR_number 14 rfl) (by decide) ?_
    refine lv_icmp_le (tgt := 39) hx hb (dt_bc_BR_number 15 rfl) (by decide) (fun hc => ?_) (fun hc => ?_)
    · replace h := (if_pos hc).symm.trans h
      exact hL39 _ _ h ls H locs (lv_sub hl [0, 1, 2, 3] rfl) hP hD hS
    · replace h := (if_neg hc).symm.trans h
      refine lv_aload_n hx hb (dt_bc_BR_number 16 rfl) rfl (lv_at hl 0 rfl) ?_
      refine lv_iconst (v := 5) hx hb (dt_bc_BR_number 17 rfl) (by decide) ?_
      obtain ⟨m1, hm1, h⟩ := bp_cV_s h
      refine bc_callV E hsub hS (va_runV (As := [.int 5]) (rest := []) ⟨hx, hb, hml, hown, htb⟩ (wbc_BR_fail l E N 5 m H.size m1 hm1) (cwV 1 htb (bp_goodV tw_428 tw_421 tw_422 tw_73 tw_423) rfl rfl rfl ⟨rfl, hd_bc_BR_fail⟩ ⟨Nat.le_of_ble_eq_true rfl, Nat.le_of_ble_eq_true rfl⟩) (bc_preV E hsub hst hK hP hD hS (bc_gBR E m) rfl rfl _) rfl rfl hl.1 rfl (lv_room (Nat.le_of_ble_eq_true rfl)) (dt_bc_BR_number 18 rfl) ⟨Nat.zero_le _, Nat.zero_le _⟩) (fun H locs hP hD hS => ?_)
      exact hL39 _ _ h ls H locs (lv_sub hl [0, 1, 2, 3] rfl) hP hD hS
  have hL2 : ∀ (n2 : Nat) (x3 : Int32) (m : bp_M), bc_BR_number_L2 N a1 a2 n2 x3 m = some (r, mr) → ∀ (ls : Array Slot) (H : Heap) (locs : List Loc), lv_has ls 6 [(0, .ref (E.2.1 6)), (1, .int a1), (2, .int a2), (3, .int x3)] → va_P E.1 bp_cl (bc_W E m) H → va_D A (bc_W E m) → va_S A s.heap H locs → W p l e ({ frames := 1, cells := 0, slots := 0, locals := 21 }) s mt args below meth c H locs 0 0 Q (F0 mt 2 ls []) := by
    intro n2
    induction n2 with
    | zero =>
      intro x3 m h ls H locs hl hP hD hS
      rw [bc_BR_number_L2] at h
      cases h
    | succ n2 ih2 =>
      intro x3 m h ls H locs hl hP hD hS
      rw [bc_BR_number_L2] at h
      refine lv_iload_n hx hb (dt_bc_BR_number 2 rfl) rfl (lv_at hl 3 rfl) ?_
      refine lv_bipush (v := 10) hx hb (dt_bc_BR_number 3 rfl) (by decide) ?_
      refine lv_icmp_gt (tgt := 28) hx hb (dt_bc_BR_number 4 rfl) (by decide) (fun hc => ?_) (fun hc => ?_)
      · replace h := (if_pos hc).symm.trans h
        exact hL28 _ _ h ls H locs (lv_sub hl [0, 1, 2, 3] rfl) hP hD hS
      · replace h := (if_neg hc).symm.trans h
        refine lv_aload_n hx hb (dt_bc_BR_number 5 rfl) rfl (lv_at hl 0 rfl) ?_
        refine va_get (D := E.1) (ci := 6) (v := .int (m.1 6 3)) (C := "BlockPictures$BitReader") (T := bF_BR) (N := 4) hx hb htb bc_in_BR hown hK hP 6 (bc_gBR E m) rfl 3 (by decide) (htb _ tw_164) (fun _ h9 => h9) rfl (dt_bc_BR_number 6 rfl) ?_
        refine lv_if_ne (tgt := 28) hx hb (dt_bc_BR_number 7 rfl) (by decide) (fun hc => ?_) (fun hc => ?_)
        · replace h := (if_pos hc).symm.trans h
          exact hL28 _ _ h ls H locs (lv_sub hl [0, 1, 2, 3] rfl) hP hD hS
        · replace h := (if_neg (fun hn => hn hc)).symm.trans h
          refine lv_aload_n hx hb (dt_bc_BR_number 8 rfl) rfl (lv_at hl 0 rfl) ?_
          obtain ⟨z2, m1, hm1, h⟩ := bp_cI_s h
          refine bc_callI E hsub hS (va_runV (As := []) (rest := []) ⟨hx, hb, hml, hown, htb⟩ (wbc_BR_nextBit l E N  m H.size z2 m1 hm1) (cwV 0 htb (bp_goodV tw_437 tw_439 tw_6 tw_73 tw_440) rfl rfl rfl ⟨rfl, hd_bc_BR_nextBit⟩ ⟨Nat.le_of_ble_eq_true rfl, Nat.le_of_ble_eq_true rfl⟩) (bc_preV E hsub hst hK hP hD hS (bc_gBR E m) rfl rfl _) rfl rfl hl.1 rfl (lv_room (Nat.le_of_ble_eq_true rfl)) (dt_bc_BR_number 9 rfl) ⟨Nat.zero_le _, Nat.zero_le _⟩) (fun H locs hP hD hS => ?_)
          refine lv_if_ne (tgt := 28) hx hb (dt_bc_BR_number 10 rfl) (by decide) (fun hc => ?_) (fun hc => ?_)
          · replace h := (if_pos hc).symm.trans h
            exact hL28 _ _ h ls H locs (lv_sub hl [0, 1, 2, 3] rfl) hP hD hS
          · replace h := (if_neg (fun hn => hn hc)).symm.trans h
            obtain ⟨y3, ey3⟩ : ∃ z : Int32, z = x3 + 1 := ⟨_, rfl⟩
            replace h := bp_nI_s h ey3
            refine lv_iinc (k := 3) (v := y3) hx hb (dt_bc_BR_number 11 rfl) hl rfl (by rw [ey3]; rfl) (Nat.le_of_ble_eq_true rfl) rfl (fun ls hl => ?_)
            have hl : lv_has ls 6 [(3, .int y3), (0, .ref (E.2.1 6)), (1, .int a1), (2, .int a2)] := hl
            refine lv_goto (tgt := 2) hx hb (dt_bc_BR_number 12 rfl) (by decide) ?_
            exact ih2 _ _ h ls H locs (lv_sub hl [1, 2, 3, 0] rfl) hP hD hS
  suffices hgo : ∀ (H : Heap) (locs : List Loc), va_P E.1 bp_cl (bc_W E m) H → va_D A (bc_W E m) → va_S A s.heap H locs → W p l e ({ frames := 1, cells := 0, slots := 0, locals := 21 }) s mt args below meth c H locs 0 0 Q (F0 mt 0 ls []) from hgo _ _ hP hD hS
  clear hP hD hS
  intro H locs hP hD hS
  unfold bc_BR_number at h
  refine lv_iconst (v := 0) hx hb (dt_bc_BR_number 0 rfl) (by decide) ?_
  refine lv_istore_n hx hb (dt_bc_BR_number 1 rfl) rfl hl (Nat.le_of_ble_eq_true rfl) rfl (fun ls hl => ?_)
  have hl : lv_has ls 6 [(3, .int 0), (0, .ref (E.2.1 6)), (1, .int a1), (2, .int a2)] := hl
  exact hL2 _ _ _ h ls H locs (lv_sub hl [1, 2, 3, 0] rfl) hP hD hS
set_option maxHeartbeats 4000000 in
set_option maxRecDepth 100000 in
theorem wbc_BR_needEnd (l : Launch) (E : bc_E) (N : Nat)  (m : bp_M) (sz : Nat) (mr : bp_M)  (h : bc_BR_needEnd N m = some mr) : Met l y_bc_BR_needEnd (Cond.code y_bc_BR_needEnd prog_2_method_5_code 1 none :: bp_tb) ({ frames := 1, cells := 0, slots := 0, locals := 21 }) (bc_Pc E m sz [.ref (E.2.1 6)]) (bc_Qv E m sz mr) 0 0 (va_A (bc_W E m) sz) := by
  refine Met.ofW (cc := prog_2_method_5_code) (maxL := 1) (ret := none) (by decide) rfl ?_
  intro p e s mt args below meth c s₁ B hml hv
  obtain ⟨rfl, hsz, hP, hK, hD0, hst⟩ := hv
  have hx := B.exec
  have hb := B.bytes
  have hr := B.returns
  have htb : ∀ w ∈ bp_tb, w.before _ s = true := fun w hw => atoms_spec (ws := Cond.code y_bc_BR_needEnd prog_2_method_5_code 1 none :: bp_tb) B.pre w (List.mem_cons_of_mem _ hw)
  have hown : s.vm.findClass "BlockPictures$BitReader" = some mt.cls := findClass_of_methodNamed B.named
  have hlocks := B.notSynchronized
  subst hsz
  have hD := hD0.self (sz := s.heap.size)
  generalize hAe : va_A (bc_W E m) s.heap.size = A at hD hst ⊢
  have hsub : ∀ (u : bp_M) (z q : Nat), s.heap.size ≤ z → va_A (bc_W E u) z q → A q := bc_sub hAe
  have hS : va_S A s.heap s.heap [] := va_S.rf
  have hl := lv_entry ([.ref (E.2.1 6)]) (n := 1) (Nat.le_of_ble_eq_true rfl)
  rw [lg_entry_eq]
  generalize (lg_sl ([.ref (E.2.1 6)]) ++ List.replicate (1 - (lg_sl ([.ref (E.2.1 6)])).length) Slot.unset).toArray = ls at hl ⊢
  have hl : lv_has ls 1 [(0, .ref (E.2.1 6))] := hl
  refine bc_keyV (R := ({ frames := 1, cells := 0, slots := 0, locals := 21 })) E hx hb hr hlocks hK hAe (fun Q hret => ?_)
  clear B hD0 hlocks hr
  generalize ([.ref (E.2.1 6)] : List Value).toArray = args at htb hret ⊢
  clear hAe
  have hL17 : ∀ (m : bp_M), bc_BR_needEnd_L17 N m = some mr → ∀ (ls : Array Slot) (H : Heap) (locs : List Loc), lv_has ls 1 [] → va_P E.1 bp_cl (bc_W E m) H → va_D A (bc_W E m) → va_S A s.heap H locs → W p l e ({ frames := 1, cells := 0, slots := 0, locals := 21 }) s mt args below meth c H locs 0 0 Q (F0 mt 17 ls []) := by
    intro m h ls H locs hl hP hD hS
    rw [bc_BR_needEnd_L17] at h
    exact hret _ _ _ _ _ h hP hD hS (dt_bc_BR_needEnd 8 rfl)
  suffices hgo : ∀ (H : Heap) (locs : List Loc), va_P E.1 bp_cl (bc_W E m) H → va_D A (bc_W E m) → va_S A s.heap H locs → W p l e ({ frames := 1, cells := 0, slots := 0, locals := 21 }) s mt args below meth c H locs 0 0 Q (F0 mt 0 ls []) from hgo _ _ hP hD hS
  clear hP hD hS
  intro H locs hP hD hS
  unfold bc_BR_needEnd at h
  refine lv_aload_n hx hb (dt_bc_BR_needEnd 0 rfl) rfl (lv_at hl 0 rfl) ?_
  refine va_get (D := E.1) (ci := 6) (v := .int (m.1 6 1)) (C := "BlockPictures$BitReader") (T := bF_BR) (N := 4) hx hb htb bc_in_BR hown hK hP 6 (bc_gBR E m) rfl 1 (by decide) (htb _ tw_162) (fun _ h9 => h9) rfl (dt_bc_BR_needEnd 1 rfl) ?_
  refine lv_aload_n hx hb (dt_bc_BR_needEnd 2 rfl) rfl (lv_at hl 0 rfl) ?_
  refine va_get (D := E.1) (ci := 6) (v := .int (m.1 6 2)) (C := "BlockPictures$BitReader") (T := bF_BR) (N := 4) hx hb htb bc_in_BR hown hK hP 6 (bc_gBR E m) rfl 2 (by decide) (htb _ tw_163) (fun _ h9 => h9) rfl (dt_bc_BR_needEnd 3 rfl) ?_
  refine lv_icmp_ge (tgt := 17) hx hb (dt_bc_BR_needEnd 4 rfl) (by decide) (fun hc => ?_) (fun hc => ?_)
  · replace h := (if_pos hc).symm.trans h
    exact hL17 _ h ls H locs (lv_sub hl [] rfl) hP hD hS
  · replace h := (if_neg hc).symm.trans h
    refine lv_aload_n hx hb (dt_bc_BR_needEnd 5 rfl) rfl (lv_at hl 0 rfl) ?_
    refine lv_bipush (v := 6) hx hb (dt_bc_BR_needEnd 6 rfl) (by decide) ?_
    obtain ⟨m1, hm1, h⟩ := bp_cV_s h
    refine bc_callV E hsub hS (va_runV (As := [.int 6]) (rest := []) ⟨hx, hb, hml, hown, htb⟩ (wbc_BR_fail l E N 6 m H.size m1 hm1) (cwV 1 htb (bp_goodV tw_428 tw_421 tw_422 tw_73 tw_423) rfl rfl rfl ⟨rfl, hd_bc_BR_fail⟩ ⟨Nat.le_of_ble_eq_true rfl, Nat.le_of_ble_eq_true rfl⟩) (bc_preV E hsub hst hK hP hD hS (bc_gBR E m) rfl rfl _) rfl rfl hl.1 rfl (lv_room (Nat.le_of_ble_eq_true rfl)) (dt_bc_BR_needEnd 7 rfl) ⟨Nat.zero_le _, Nat.zero_le _⟩) (fun H locs hP hD hS => ?_)
    exact hL17 _ h ls H locs (lv_sub hl [] rfl) hP hD hS

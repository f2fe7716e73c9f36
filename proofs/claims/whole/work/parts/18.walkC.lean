set_option maxHeartbeats 4000000 in
set_option maxRecDepth 100000 in
theorem wbc_BP_written (l : Launch) (E : bc_E) (N : Nat) (a1 : Int32) (m : bp_M) (sz : Nat) (r : Int32) (mr : bp_M)  (h : bc_BP_written N a1 m = some (r, mr)) : Met l y_bc_BP_written (Cond.code y_bc_BP_written prog_1_method_17_code 2 (some .int) :: bp_tb) ({ frames := 0, cells := 0, slots := 0, locals := 0 }) (bc_Pc E m sz [.ref (E.2.1 0), .int a1]) (bc_Qi E m sz r mr) 0 0 (va_A (bc_W E m) sz) := by
  refine Met.ofW (cc := prog_1_method_17_code) (maxL := 2) (ret := (some .int)) (by decide) rfl ?_
  intro p e s mt args below meth c s₁ B hml hv
  obtain ⟨rfl, hsz, hP, hK, hD0, hst⟩ := hv
  have hx := B.exec
  have hb := B.bytes
  have hr := B.returns
  have htb : ∀ w ∈ bp_tb, w.before _ s = true := fun w hw => atoms_spec (ws := Cond.code y_bc_BP_written prog_1_method_17_code 2 (some .int) :: bp_tb) B.pre w (List.mem_cons_of_mem _ hw)
  have hown : s.vm.findClass "BlockPictures" = some mt.cls := findClass_of_methodNamed B.named
  have hlocks := B.notSynchronized
  subst hsz
  have hD := hD0.self (sz := s.heap.size)
  generalize hAe : va_A (bc_W E m) s.heap.size = A at hD hst ⊢
  have hsub : ∀ (u : bp_M) (z q : Nat), s.heap.size ≤ z → va_A (bc_W E u) z q → A q := bc_sub hAe
  have hS : va_S A s.heap s.heap [] := va_S.rf
  have hl := lv_entry ([.ref (E.2.1 0), .int a1]) (n := 2) (Nat.le_of_ble_eq_true rfl)
  rw [lg_entry_eq]
  generalize (lg_sl ([.ref (E.2.1 0), .int a1]) ++ List.replicate (2 - (lg_sl ([.ref (E.2.1 0), .int a1])).length) Slot.unset).toArray = ls at hl ⊢
  have hl : lv_has ls 2 [(0, .ref (E.2.1 0)), (1, .int a1)] := hl
  refine bc_keyI (R := ({ frames := 0, cells := 0, slots := 0, locals := 0 })) E hx hb hr hlocks hK hAe (fun Q hret => ?_)
  clear B hD0 hlocks hr
  generalize ([.ref (E.2.1 0), .int a1] : List Value).toArray = args at htb hret ⊢
  clear hAe
  have hL28 : ∀ (s0 : Int32) (m : bp_M), bc_BP_written_L28 N a1 s0 m = some (r, mr) → ∀ (ls : Array Slot) (H : Heap) (locs : List Loc), lv_has ls 2 [] → va_P E.1 bp_cl (bc_W E m) H → va_D A (bc_W E m) → va_S A s.heap H locs → W p l e ({ frames := 0, cells := 0, slots := 0, locals := 0 }) s mt args below meth c H locs 0 0 Q (F0 mt 28 ls [.int s0]) := by
    intro s0 m h ls H locs hl hP hD hS
    rw [bc_BP_written_L28] at h
    exact hret _ _ _ _ _ _ h hP hD hS (dt_bc_BP_written 14 rfl)
  have hL15 : ∀ (m : bp_M), bc_BP_written_L15 N a1 m = some (r, mr) → ∀ (ls : Array Slot) (H : Heap) (locs : List Loc), lv_has ls 2 [] → va_P E.1 bp_cl (bc_W E m) H → va_D A (bc_W E m) → va_S A s.heap H locs → W p l e ({ frames := 0, cells := 0, slots := 0, locals := 0 }) s mt args below meth c H locs 0 0 Q (F0 mt 15 ls []) := by
    intro m h ls H locs hl hP hD hS
    rw [bc_BP_written_L15] at h
    refine lv_iconst (v := (-1)) hx hb (dt_bc_BP_written 7 rfl) (by decide) ?_
    refine lv_goto (tgt := 28) hx hb (dt_bc_BP_written 8 rfl) (by decide) ?_
    exact hL28 _ _ h ls H locs (lv_sub hl [] rfl) hP hD hS
  suffices hgo : ∀ (H : Heap) (locs : List Loc), va_P E.1 bp_cl (bc_W E m) H → va_D A (bc_W E m) → va_S A s.heap H locs → W p l e ({ frames := 0, cells := 0, slots := 0, locals := 0 }) s mt args below meth c H locs 0 0 Q (F0 mt 0 ls []) from hgo _ _ hP hD hS
  clear hP hD hS
  intro H locs hP hD hS
  unfold bc_BP_written at h
  refine lv_iload_n hx hb (dt_bc_BP_written 0 rfl) rfl (lv_at hl 1 rfl) ?_
  refine lv_if_lt (tgt := 15) hx hb (dt_bc_BP_written 1 rfl) (by decide) (fun hc => ?_) (fun hc => ?_)
  · replace h := (if_pos hc).symm.trans h
    exact hL15 _ h ls H locs (lv_sub hl [] rfl) hP hD hS
  · replace h := (if_neg hc).symm.trans h
    refine lv_iload_n hx hb (dt_bc_BP_written 2 rfl) rfl (lv_at hl 1 rfl) ?_
    refine lv_aload_n hx hb (dt_bc_BP_written 3 rfl) rfl (lv_at hl 0 rfl) ?_
    refine va_get (D := E.1) (ci := 0) (v := .ref (E.2.1 5)) (C := "BlockPictures") (T := bF_BP) (N := 7) hx hb htb bc_in_BP hown hK hP 0 (bc_gBP E m) rfl 4 (by decide) (htb _ tw_363) (fun _ h9 => h9) rfl (dt_bc_BP_written 4 rfl) ?_
    refine va_get (D := E.1) (ci := 5) (v := .int (m.1 5 2)) (C := "BlockPictures$UnitWriter") (T := bF_UW) (N := 6) hx hb htb bc_in_UW hown hK hP 5 (bc_gUW E m) rfl 2 (by decide) (htb _ tw_342) (fun _ h9 => h9) rfl (dt_bc_BP_written 5 rfl) ?_
    refine lv_icmp_lt (tgt := 19) hx hb (dt_bc_BP_written 6 rfl) (by decide) (fun hc => ?_) (fun hc => ?_)
    · replace h := (if_pos hc).symm.trans h
      refine lv_aload_n hx hb (dt_bc_BP_written 9 rfl) rfl (lv_at hl 0 rfl) ?_
      refine va_get (D := E.1) (ci := 0) (v := .ref (E.2.1 5)) (C := "BlockPictures") (T := bF_BP) (N := 7) hx hb htb bc_in_BP hown hK hP 0 (bc_gBP E m) rfl 4 (by decide) (htb _ tw_363) (fun _ h9 => h9) rfl (dt_bc_BP_written 10 rfl) ?_
      refine va_get (D := E.1) (ci := 5) (v := .ref (E.2.1 23)) (C := "BlockPictures$UnitWriter") (T := bF_UW) (N := 6) hx hb htb bc_in_UW hown hK hP 5 (bc_gUW E m) rfl 1 (by decide) (htb _ tw_340) (fun _ h9 => h9) rfl (dt_bc_BP_written 11 rfl) ?_
      refine lv_iload_n hx hb (dt_bc_BP_written 12 rfl) rfl (lv_at hl 1 rfl) ?_
      obtain ⟨hg1, h⟩ := bp_gi_s h
      refine bc_lI E hx hb hK hP (bc_ga23 E) hg1 (dt_bc_BP_written 13 rfl) ?_
      exact hL28 _ _ h ls H locs (lv_sub hl [] rfl) hP hD hS
    · replace h := (if_neg hc).symm.trans h
      exact hL15 _ h ls H locs (lv_sub hl [] rfl) hP hD hS
set_option maxHeartbeats 4000000 in
set_option maxRecDepth 100000 in
theorem wbc_BP_pass (l : Launch) (E : bc_E) (N : Nat)  (m : bp_M) (sz : Nat) (r : Int32) (mr : bp_M)  (h : bc_BP_pass N m = some (r, mr)) : Met l y_bc_BP_pass (Cond.code y_bc_BP_pass prog_1_method_18_code 3 (some .int) :: bp_tb) ({ frames := 6, cells := 0, slots := 0, locals := 169 }) (bc_Pc E m sz [.ref (E.2.1 0)]) (bc_Qi E m sz r mr) 0 0 (va_A (bc_W E m) sz) := by
  refine Met.ofW (cc := prog_1_method_18_code) (maxL := 3) (ret := (some .int)) (by decide) rfl ?_
  intro p e s mt args below meth c s₁ B hml hv
  obtain ⟨rfl, hsz, hP, hK, hD0, hst⟩ := hv
  have hx := B.exec
  have hb := B.bytes
  have hr := B.returns
  have htb : ∀ w ∈ bp_tb, w.before _ s = true := fun w hw => atoms_spec (ws := Cond.code y_bc_BP_pass prog_1_method_18_code 3 (some .int) :: bp_tb) B.pre w (List.mem_cons_of_mem _ hw)
  have hown : s.vm.findClass "BlockPictures" = some mt.cls := findClass_of_methodNamed B.named
  have hlocks := B.notSynchronized
  subst hsz
  have hD := hD0.self (sz := s.heap.size)
  generalize hAe : va_A (bc_W E m) s.heap.size = A at hD hst ⊢
  have hsub : ∀ (u : bp_M) (z q : Nat), s.heap.size ≤ z → va_A (bc_W E u) z q → A q := bc_sub hAe
  have hS : va_S A s.heap s.heap [] := va_S.rf
  have hl := lv_entry ([.ref (E.2.1 0)]) (n := 3) (Nat.le_of_ble_eq_true rfl)
  rw [lg_entry_eq]
  generalize (lg_sl ([.ref (E.2.1 0)]) ++ List.replicate (3 - (lg_sl ([.ref (E.2.1 0)])).length) Slot.unset).toArray = ls at hl ⊢
  have hl : lv_has ls 3 [(0, .ref (E.2.1 0))] := hl
  refine bc_keyI (R := ({ frames := 6, cells := 0, slots := 0, locals := 169 })) E hx hb hr hlocks hK hAe (fun Q hret => ?_)
  clear B hD0 hlocks hr
  generalize ([.ref (E.2.1 0)] : List Value).toArray = args at htb hret ⊢
  clear hAe
  have hL44 : ∀ (x1 : Int32) (m : bp_M), bc_BP_pass_L44 N x1 m = some (r, mr) → ∀ (ls : Array Slot) (H : Heap) (locs : List Loc), lv_has ls 3 [(1, .int x1)] → va_P E.1 bp_cl (bc_W E m) H → va_D A (bc_W E m) → va_S A s.heap H locs → W p l e ({ frames := 6, cells := 0, slots := 0, locals := 169 }) s mt args below meth c H locs 0 0 Q (F0 mt 44 ls []) := by
    intro x1 m h ls H locs hl hP hD hS
    rw [bc_BP_pass_L44] at h
    refine lv_iload_n hx hb (dt_bc_BP_pass 22 rfl) rfl (lv_at hl 0 rfl) ?_
    exact hret _ _ _ _ _ _ h hP hD hS (dt_bc_BP_pass 23 rfl)
  have hL4 : ∀ (n4 : Nat) (x1 : Int32) (x2 : Int32) (m : bp_M), bc_BP_pass_L4 N n4 x1 x2 m = some (r, mr) → ∀ (ls : Array Slot) (H : Heap) (locs : List Loc), lv_has ls 3 [(0, .ref (E.2.1 0)), (1, .int x1), (2, .int x2)] → va_P E.1 bp_cl (bc_W E m) H → va_D A (bc_W E m) → va_S A s.heap H locs → W p l e ({ frames := 6, cells := 0, slots := 0, locals := 169 }) s mt args below meth c H locs 0 0 Q (F0 mt 4 ls []) := by
    intro n4
    induction n4 with
    | zero =>
      intro x1 x2 m h ls H locs hl hP hD hS
      rw [bc_BP_pass_L4] at h
      cases h
    | succ n4 ih4 =>
      have hL38 : ∀ (x1 : Int32) (x2 : Int32) (m : bp_M), bc_BP_pass_L38 (bc_BP_pass_L4 N n4) N x1 x2 m = some (r, mr) → ∀ (ls : Array Slot) (H : Heap) (locs : List Loc), lv_has ls 3 [(0, .ref (E.2.1 0)), (1, .int x1), (2, .int x2)] → va_P E.1 bp_cl (bc_W E m) H → va_D A (bc_W E m) → va_S A s.heap H locs → W p l e ({ frames := 6, cells := 0, slots := 0, locals := 169 }) s mt args below meth c H locs 0 0 Q (F0 mt 38 ls []) := by
        intro x1 x2 m h ls H locs hl hP hD hS
        rw [bc_BP_pass_L38] at h
        obtain ⟨y1, ey1⟩ : ∃ z : Int32, z = x2 + 1 := ⟨_, rfl⟩
        replace h := bp_nI_s h ey1
        refine lv_iinc (k := 2) (v := y1) hx hb (dt_bc_BP_pass 20 rfl) hl rfl (by rw [ey1]; rfl) (Nat.le_of_ble_eq_true rfl) rfl (fun ls hl => ?_)
        have hl : lv_has ls 3 [(2, .int y1), (0, .ref (E.2.1 0)), (1, .int x1)] := hl
        refine lv_goto (tgt := 4) hx hb (dt_bc_BP_pass 21 rfl) (by decide) ?_
        exact ih4 _ _ _ h ls H locs (lv_sub hl [1, 2, 0] rfl) hP hD hS
      intro x1 x2 m h ls H locs hl hP hD hS
      rw [bc_BP_pass_L4] at h
      refine lv_iload_n hx hb (dt_bc_BP_pass 4 rfl) rfl (lv_at hl 2 rfl) ?_
      refine lv_aload_n hx hb (dt_bc_BP_pass 5 rfl) rfl (lv_at hl 0 rfl) ?_
      refine va_get (D := E.1) (ci := 0) (v := .ref (E.2.1 5)) (C := "BlockPictures") (T := bF_BP) (N := 7) hx hb htb bc_in_BP hown hK hP 0 (bc_gBP E m) rfl 4 (by decide) (htb _ tw_363) (fun _ h9 => h9) rfl (dt_bc_BP_pass 6 rfl) ?_
      refine va_get (D := E.1) (ci := 5) (v := .int (m.1 5 2)) (C := "BlockPictures$UnitWriter") (T := bF_UW) (N := 6) hx hb htb bc_in_UW hown hK hP 5 (bc_gUW E m) rfl 2 (by decide) (htb _ tw_342) (fun _ h9 => h9) rfl (dt_bc_BP_pass 7 rfl) ?_
      refine lv_icmp_ge (tgt := 44) hx hb (dt_bc_BP_pass 8 rfl) (by decide) (fun hc => ?_) (fun hc => ?_)
      · replace h := (if_pos hc).symm.trans h
        exact hL44 _ _ h ls H locs (lv_sub hl [1] rfl) hP hD hS
      · replace h := (if_neg hc).symm.trans h
        refine lv_aload_n hx hb (dt_bc_BP_pass 9 rfl) rfl (lv_at hl 0 rfl) ?_
        refine lv_aload_n hx hb (dt_bc_BP_pass 10 rfl) rfl (lv_at hl 0 rfl) ?_
        refine va_get (D := E.1) (ci := 0) (v := .ref (E.2.1 5)) (C := "BlockPictures") (T := bF_BP) (N := 7) hx hb htb bc_in_BP hown hK hP 0 (bc_gBP E m) rfl 4 (by decide) (htb _ tw_363) (fun _ h9 => h9) rfl (dt_bc_BP_pass 11 rfl) ?_
        refine va_get (D := E.1) (ci := 5) (v := .ref (E.2.1 23)) (C := "BlockPictures$UnitWriter") (T := bF_UW) (N := 6) hx hb htb bc_in_UW hown hK hP 5 (bc_gUW E m) rfl 1 (by decide) (htb _ tw_340) (fun _ h9 => h9) rfl (dt_bc_BP_pass 12 rfl) ?_
        refine lv_iload_n hx hb (dt_bc_BP_pass 13 rfl) rfl (lv_at hl 2 rfl) ?_
        obtain ⟨hg1, h⟩ := bp_gi_s h
        refine bc_lI E hx hb hK hP (bc_ga23 E) hg1 (dt_bc_BP_pass 14 rfl) ?_
        obtain ⟨z3, m2, hm2, h⟩ := bp_cI_s h
        refine bc_callI E hsub hS (va_runV (As := [.int (m.1 23 x2.toNatClampNeg)]) (rest := []) ⟨hx, hb, hml, hown, htb⟩ (wbc_BP_unitEndsAt l E N (m.1 23 x2.toNatClampNeg) m H.size z3 m2 hm2) (cwV 1 htb (bp_goodV tw_385 tw_387 tw_0 tw_69 tw_388) rfl rfl rfl ⟨rfl, hd_bc_BP_unitEndsAt⟩ ⟨Nat.le_of_ble_eq_true rfl, Nat.le_of_ble_eq_true rfl⟩) (bc_preV E hsub hst hK hP hD hS (bc_gBP E m) rfl rfl _) rfl rfl hl.1 rfl (lv_room (Nat.le_of_ble_eq_true rfl)) (dt_bc_BP_pass 15 rfl) ⟨Nat.zero_le _, Nat.zero_le _⟩) (fun H locs hP hD hS => ?_)
        refine lv_if_eq (tgt := 38) hx hb (dt_bc_BP_pass 16 rfl) (by decide) (fun hc => ?_) (fun hc => ?_)
        · replace h := (if_pos hc).symm.trans h
          exact hL38 _ _ _ h ls H locs (lv_sub hl [0, 1, 2] rfl) hP hD hS
        · replace h := (if_neg hc).symm.trans h
          refine lv_aload_n hx hb (dt_bc_BP_pass 17 rfl) rfl (lv_at hl 0 rfl) ?_
          obtain ⟨m4, hm4, h⟩ := bp_cV_s h
          refine bc_callV E hsub hS (va_runV (As := []) (rest := []) ⟨hx, hb, hml, hown, htb⟩ (wbc_BP_workThrough l E N  m2 H.size m4 hm4) (cwV 0 htb (bp_goodV tw_409 tw_411 tw_5 tw_69 tw_412) rfl rfl rfl ⟨rfl, hd_bc_BP_workThrough⟩ ⟨Nat.le_of_ble_eq_true rfl, Nat.le_of_ble_eq_true rfl⟩) (bc_preV E hsub hst hK hP hD hS (bc_gBP E m2) rfl rfl _) rfl rfl hl.1 rfl (lv_room (Nat.le_of_ble_eq_true rfl)) (dt_bc_BP_pass 18 rfl) ⟨Nat.zero_le _, Nat.zero_le _⟩) (fun H locs hP hD hS => ?_)
          obtain ⟨y5, ey5⟩ : ∃ z : Int32, z = x1 + 1 := ⟨_, rfl⟩
          replace h := bp_nI_s h ey5
          refine lv_iinc (k := 1) (v := y5) hx hb (dt_bc_BP_pass 19 rfl) hl rfl (by rw [ey5]; rfl) (Nat.le_of_ble_eq_true rfl) rfl (fun ls hl => ?_)
          have hl : lv_has ls 3 [(1, .int y5), (0, .ref (E.2.1 0)), (2, .int x2)] := hl
          exact hL38 _ _ _ h ls H locs (lv_sub hl [1, 0, 2] rfl) hP hD hS
  suffices hgo : ∀ (H : Heap) (locs : List Loc), va_P E.1 bp_cl (bc_W E m) H → va_D A (bc_W E m) → va_S A s.heap H locs → W p l e ({ frames := 6, cells := 0, slots := 0, locals := 169 }) s mt args below meth c H locs 0 0 Q (F0 mt 0 ls []) from hgo _ _ hP hD hS
  clear hP hD hS
  intro H locs hP hD hS
  unfold bc_BP_pass at h
  refine lv_iconst (v := 0) hx hb (dt_bc_BP_pass 0 rfl) (by decide) ?_
  refine lv_istore_n hx hb (dt_bc_BP_pass 1 rfl) rfl hl (Nat.le_of_ble_eq_true rfl) rfl (fun ls hl => ?_)
  have hl : lv_has ls 3 [(1, .int 0), (0, .ref (E.2.1 0))] := hl
  refine lv_iconst (v := 0) hx hb (dt_bc_BP_pass 2 rfl) (by decide) ?_
  refine lv_istore_n hx hb (dt_bc_BP_pass 3 rfl) rfl hl (Nat.le_of_ble_eq_true rfl) rfl (fun ls hl => ?_)
  have hl : lv_has ls 3 [(2, .int 0), (1, .int 0), (0, .ref (E.2.1 0))] := hl
  exact hL4 _ _ _ _ h ls H locs (lv_sub hl [2, 1, 0] rfl) hP hD hS

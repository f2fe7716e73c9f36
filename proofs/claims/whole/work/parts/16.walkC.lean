set_option maxHeartbeats 4000000 in
set_option maxRecDepth 100000 in
theorem wbc_BP_feed (l : Launch) (E : bc_E) (N : Nat) (a1 : Int32) (a2 : Int32) (m : bp_M) (sz : Nat) (r : Int32) (mr : bp_M)  (h : bc_BP_feed N a1 a2 m = some (r, mr)) : Met l y_bc_BP_feed (Cond.code y_bc_BP_feed prog_1_method_2_code 5 (some .int) :: bp_tb) ({ frames := 6, cells := 0, slots := 0, locals := 169 }) (bc_Pc E m sz [.ref (E.2.1 0), .int a1, .int a2]) (bc_Qi E m sz r mr) 0 0 (va_A (bc_W E m) sz) := by
  refine Met.ofW (cc := prog_1_method_2_code) (maxL := 5) (ret := (some .int)) (by decide) rfl ?_
  intro p e s mt args below meth c s₁ B hml hv
  obtain ⟨rfl, hsz, hP, hK, hD0, hst⟩ := hv
  have hx := B.exec
  have hb := B.bytes
  have hr := B.returns
  have htb : ∀ w ∈ bp_tb, w.before _ s = true := fun w hw => atoms_spec (ws := Cond.code y_bc_BP_feed prog_1_method_2_code 5 (some .int) :: bp_tb) B.pre w (List.mem_cons_of_mem _ hw)
  have hown : s.vm.findClass "BlockPictures" = some mt.cls := findClass_of_methodNamed B.named
  have hlocks := B.notSynchronized
  subst hsz
  have hD := hD0.self (sz := s.heap.size)
  generalize hAe : va_A (bc_W E m) s.heap.size = A at hD hst ⊢
  have hsub : ∀ (u : bp_M) (z q : Nat), s.heap.size ≤ z → va_A (bc_W E u) z q → A q := bc_sub hAe
  have hS : va_S A s.heap s.heap [] := va_S.rf
  have hl := lv_entry ([.ref (E.2.1 0), .int a1, .int a2]) (n := 5) (Nat.le_of_ble_eq_true rfl)
  rw [lg_entry_eq]
  generalize (lg_sl ([.ref (E.2.1 0), .int a1, .int a2]) ++ List.replicate (5 - (lg_sl ([.ref (E.2.1 0), .int a1, .int a2])).length) Slot.unset).toArray = ls at hl ⊢
  have hl : lv_has ls 5 [(0, .ref (E.2.1 0)), (1, .int a1), (2, .int a2)] := hl
  refine bc_keyI (R := ({ frames := 6, cells := 0, slots := 0, locals := 169 })) E hx hb hr hlocks hK hAe (fun Q hret => ?_)
  clear B hD0 hlocks hr
  generalize ([.ref (E.2.1 0), .int a1, .int a2] : List Value).toArray = args at htb hret ⊢
  clear hAe
  have hL55 : ∀ (x3 : Int32) (m : bp_M), bc_BP_feed_L55 N a1 a2 x3 m = some (r, mr) → ∀ (ls : Array Slot) (H : Heap) (locs : List Loc), lv_has ls 5 [(3, .int x3)] → va_P E.1 bp_cl (bc_W E m) H → va_D A (bc_W E m) → va_S A s.heap H locs → W p l e ({ frames := 6, cells := 0, slots := 0, locals := 169 }) s mt args below meth c H locs 0 0 Q (F0 mt 55 ls []) := by
    intro x3 m h ls H locs hl hP hD hS
    rw [bc_BP_feed_L55] at h
    refine lv_iload_n hx hb (dt_bc_BP_feed 31 rfl) rfl (lv_at hl 0 rfl) ?_
    exact hret _ _ _ _ _ _ h hP hD hS (dt_bc_BP_feed 32 rfl)
  have hL19 : ∀ (n19 : Nat) (x3 : Int32) (x4 : Int32) (m : bp_M), bc_BP_feed_L19 N a1 a2 n19 x3 x4 m = some (r, mr) → ∀ (ls : Array Slot) (H : Heap) (locs : List Loc), lv_has ls 5 [(0, .ref (E.2.1 0)), (1, .int a1), (3, .int x3), (4, .int x4)] → va_P E.1 bp_cl (bc_W E m) H → va_D A (bc_W E m) → va_S A s.heap H locs → W p l e ({ frames := 6, cells := 0, slots := 0, locals := 169 }) s mt args below meth c H locs 0 0 Q (F0 mt 19 ls []) := by
    intro n19
    induction n19 with
    | zero =>
      intro x3 x4 m h ls H locs hl hP hD hS
      rw [bc_BP_feed_L19] at h
      cases h
    | succ n19 ih19 =>
      have hL49 : ∀ (x3 : Int32) (x4 : Int32) (m : bp_M), bc_BP_feed_L49 (bc_BP_feed_L19 N a1 a2 n19) N a1 a2 x3 x4 m = some (r, mr) → ∀ (ls : Array Slot) (H : Heap) (locs : List Loc), lv_has ls 5 [(0, .ref (E.2.1 0)), (1, .int a1), (3, .int x3), (4, .int x4)] → va_P E.1 bp_cl (bc_W E m) H → va_D A (bc_W E m) → va_S A s.heap H locs → W p l e ({ frames := 6, cells := 0, slots := 0, locals := 169 }) s mt args below meth c H locs 0 0 Q (F0 mt 49 ls []) := by
        intro x3 x4 m h ls H locs hl hP hD hS
        rw [bc_BP_feed_L49] at h
        obtain ⟨y1, ey1⟩ : ∃ z : Int32, z = x4 + (-1) := ⟨_, rfl⟩
        replace h := bp_nI_s h ey1
        refine lv_iinc (k := 3) (v := y1) hx hb (dt_bc_BP_feed 29 rfl) hl rfl (by rw [ey1]; rfl) (Nat.le_of_ble_eq_true rfl) rfl (fun ls hl => ?_)
        have hl : lv_has ls 5 [(4, .int y1), (0, .ref (E.2.1 0)), (1, .int a1), (3, .int x3)] := hl
        refine lv_goto (tgt := 19) hx hb (dt_bc_BP_feed 30 rfl) (by decide) ?_
        exact ih19 _ _ _ h ls H locs (lv_sub hl [1, 2, 3, 0] rfl) hP hD hS
      intro x3 x4 m h ls H locs hl hP hD hS
      rw [bc_BP_feed_L19] at h
      refine lv_iload hx hb (dt_bc_BP_feed 14 rfl) (lv_at hl 3 rfl) ?_
      refine lv_if_lt (tgt := 55) hx hb (dt_bc_BP_feed 15 rfl) (by decide) (fun hc => ?_) (fun hc => ?_)
      · replace h := (if_pos hc).symm.trans h
        exact hL55 _ _ h ls H locs (lv_sub hl [2] rfl) hP hD hS
      · replace h := (if_neg hc).symm.trans h
        refine lv_aload_n hx hb (dt_bc_BP_feed 16 rfl) rfl (lv_at hl 0 rfl) ?_
        refine lv_iload_n hx hb (dt_bc_BP_feed 17 rfl) rfl (lv_at hl 1 rfl) ?_
        refine lv_bipush (v := 8) hx hb (dt_bc_BP_feed 18 rfl) (by decide) ?_
        refine lv_iload hx hb (dt_bc_BP_feed 19 rfl) (lv_at hl 3 rfl) ?_
        refine lv_imul hx hb (dt_bc_BP_feed 20 rfl) ?_
        refine lv_ishr hx hb (dt_bc_BP_feed 21 rfl) ?_
        refine lv_sipush (v := 255) hx hb (dt_bc_BP_feed 22 rfl) (by decide) ?_
        refine lv_iand hx hb (dt_bc_BP_feed 23 rfl) ?_
        obtain ⟨z2, m1, hm1, h⟩ := bp_cI_s h
        refine bc_callI E hsub hS (va_runV (As := [.int ((a1 >>> ((8 * x4 : Int32) &&& 31 : Int32) : Int32) &&& 255 : Int32)]) (rest := []) ⟨hx, hb, hml, hown, htb⟩ (wbc_BP_unitEndsAt l E N ((a1 >>> ((8 * x4 : Int32) &&& 31 : Int32) : Int32) &&& 255 : Int32) m H.size z2 m1 hm1) (cwV 1 htb (bp_goodV tw_385 tw_387 tw_0 tw_69 tw_388) rfl rfl rfl ⟨rfl, hd_bc_BP_unitEndsAt⟩ ⟨Nat.le_of_ble_eq_true rfl, Nat.le_of_ble_eq_true rfl⟩) (bc_preV E hsub hst hK hP hD hS (bc_gBP E m) rfl rfl _) rfl rfl hl.1 rfl (lv_room (Nat.le_of_ble_eq_true rfl)) (dt_bc_BP_feed 24 rfl) ⟨Nat.zero_le _, Nat.zero_le _⟩) (fun H locs hP hD hS => ?_)
        refine lv_if_eq (tgt := 49) hx hb (dt_bc_BP_feed 25 rfl) (by decide) (fun hc => ?_) (fun hc => ?_)
        · replace h := (if_pos hc).symm.trans h
          exact hL49 _ _ _ h ls H locs (lv_sub hl [0, 1, 2, 3] rfl) hP hD hS
        · replace h := (if_neg hc).symm.trans h
          refine lv_aload_n hx hb (dt_bc_BP_feed 26 rfl) rfl (lv_at hl 0 rfl) ?_
          obtain ⟨m3, hm3, h⟩ := bp_cV_s h
          refine bc_callV E hsub hS (va_runV (As := []) (rest := []) ⟨hx, hb, hml, hown, htb⟩ (wbc_BP_workThrough l E N  m1 H.size m3 hm3) (cwV 0 htb (bp_goodV tw_409 tw_411 tw_5 tw_69 tw_412) rfl rfl rfl ⟨rfl, hd_bc_BP_workThrough⟩ ⟨Nat.le_of_ble_eq_true rfl, Nat.le_of_ble_eq_true rfl⟩) (bc_preV E hsub hst hK hP hD hS (bc_gBP E m1) rfl rfl _) rfl rfl hl.1 rfl (lv_room (Nat.le_of_ble_eq_true rfl)) (dt_bc_BP_feed 27 rfl) ⟨Nat.zero_le _, Nat.zero_le _⟩) (fun H locs hP hD hS => ?_)
          obtain ⟨y4, ey4⟩ : ∃ z : Int32, z = x3 + 1 := ⟨_, rfl⟩
          replace h := bp_nI_s h ey4
          refine lv_iinc (k := 2) (v := y4) hx hb (dt_bc_BP_feed 28 rfl) hl rfl (by rw [ey4]; rfl) (Nat.le_of_ble_eq_true rfl) rfl (fun ls hl => ?_)
          have hl : lv_has ls 5 [(3, .int y4), (0, .ref (E.2.1 0)), (1, .int a1), (4, .int x4)] := hl
          exact hL49 _ _ _ h ls H locs (lv_sub hl [1, 2, 0, 3] rfl) hP hD hS
  have hL10 : ∀ (m : bp_M), bc_BP_feed_L10 N a1 a2 m = some (r, mr) → ∀ (ls : Array Slot) (H : Heap) (locs : List Loc), lv_has ls 5 [] → va_P E.1 bp_cl (bc_W E m) H → va_D A (bc_W E m) → va_S A s.heap H locs → W p l e ({ frames := 6, cells := 0, slots := 0, locals := 169 }) s mt args below meth c H locs 0 0 Q (F0 mt 10 ls []) := by
    intro m h ls H locs hl hP hD hS
    rw [bc_BP_feed_L10] at h
    refine lv_iconst (v := 0) hx hb (dt_bc_BP_feed 6 rfl) (by decide) ?_
    exact hret _ _ _ _ _ _ h hP hD hS (dt_bc_BP_feed 7 rfl)
  suffices hgo : ∀ (H : Heap) (locs : List Loc), va_P E.1 bp_cl (bc_W E m) H → va_D A (bc_W E m) → va_S A s.heap H locs → W p l e ({ frames := 6, cells := 0, slots := 0, locals := 169 }) s mt args below meth c H locs 0 0 Q (F0 mt 0 ls []) from hgo _ _ hP hD hS
  clear hP hD hS
  intro H locs hP hD hS
  unfold bc_BP_feed at h
  refine lv_iload_n hx hb (dt_bc_BP_feed 0 rfl) rfl (lv_at hl 2 rfl) ?_
  refine lv_iconst (v := 1) hx hb (dt_bc_BP_feed 1 rfl) (by decide) ?_
  refine lv_icmp_lt (tgt := 10) hx hb (dt_bc_BP_feed 2 rfl) (by decide) (fun hc => ?_) (fun hc => ?_)
  · replace h := (if_pos hc).symm.trans h
    exact hL10 _ h ls H locs (lv_sub hl [] rfl) hP hD hS
  · replace h := (if_neg hc).symm.trans h
    refine lv_iload_n hx hb (dt_bc_BP_feed 3 rfl) rfl (lv_at hl 2 rfl) ?_
    refine lv_iconst (v := 4) hx hb (dt_bc_BP_feed 4 rfl) (by decide) ?_
    refine lv_icmp_le (tgt := 12) hx hb (dt_bc_BP_feed 5 rfl) (by decide) (fun hc => ?_) (fun hc => ?_)
    · replace h := (if_pos hc).symm.trans h
      refine lv_iconst (v := 0) hx hb (dt_bc_BP_feed 8 rfl) (by decide) ?_
      refine lv_istore_n hx hb (dt_bc_BP_feed 9 rfl) rfl hl (Nat.le_of_ble_eq_true rfl) rfl (fun ls hl => ?_)
      have hl : lv_has ls 5 [(3, .int 0), (0, .ref (E.2.1 0)), (1, .int a1), (2, .int a2)] := hl
      refine lv_iload_n hx hb (dt_bc_BP_feed 10 rfl) rfl (lv_at hl 3 rfl) ?_
      refine lv_iconst (v := 1) hx hb (dt_bc_BP_feed 11 rfl) (by decide) ?_
      refine lv_isub hx hb (dt_bc_BP_feed 12 rfl) ?_
      refine lv_topi (fun y1 ey1 => ?_)
      replace h := bp_nI_s h ey1
      refine lv_istore hx hb (dt_bc_BP_feed 13 rfl) hl (Nat.le_of_ble_eq_true rfl) rfl (fun ls hl => ?_)
      have hl : lv_has ls 5 [(4, .int y1), (3, .int 0), (0, .ref (E.2.1 0)), (1, .int a1), (2, .int a2)] := hl
      exact hL19 _ _ _ _ h ls H locs (lv_sub hl [2, 3, 1, 0] rfl) hP hD hS
    · replace h := (if_neg hc).symm.trans h
      exact hL10 _ h ls H locs (lv_sub hl [] rfl) hP hD hS
set_option maxHeartbeats 4000000 in
set_option maxRecDepth 100000 in
theorem wbc_UI_close (l : Launch) (E : bc_E) (N : Nat)  (m : bp_M) (sz : Nat) (r : Int32) (mr : bp_M)  (h : bc_UI_close N m = some (r, mr)) : Met l y_bc_UI_close (Cond.code y_bc_UI_close prog_10_method_4_code 1 (some .boolean) :: bp_tb) ({ frames := 1, cells := 0, slots := 0, locals := 21 }) (bc_Pc E m sz [.ref (E.2.1 1)]) (bc_Qi E m sz r mr) 0 0 (va_A (bc_W E m) sz) := by
  refine Met.ofW (cc := prog_10_method_4_code) (maxL := 1) (ret := (some .boolean)) (by decide) rfl ?_
  intro p e s mt args below meth c s₁ B hml hv
  obtain ⟨rfl, hsz, hP, hK, hD0, hst⟩ := hv
  have hx := B.exec
  have hb := B.bytes
  have hr := B.returns
  have htb : ∀ w ∈ bp_tb, w.before _ s = true := fun w hw => atoms_spec (ws := Cond.code y_bc_UI_close prog_10_method_4_code 1 (some .boolean) :: bp_tb) B.pre w (List.mem_cons_of_mem _ hw)
  have hown : s.vm.findClass "BlockPictures$UnitIntake" = some mt.cls := findClass_of_methodNamed B.named
  have hlocks := B.notSynchronized
  subst hsz
  have hD := hD0.self (sz := s.heap.size)
  generalize hAe : va_A (bc_W E m) s.heap.size = A at hD hst ⊢
  have hsub : ∀ (u : bp_M) (z q : Nat), s.heap.size ≤ z → va_A (bc_W E u) z q → A q := bc_sub hAe
  have hS : va_S A s.heap s.heap [] := va_S.rf
  have hl := lv_entry ([.ref (E.2.1 1)]) (n := 1) (Nat.le_of_ble_eq_true rfl)
  rw [lg_entry_eq]
  generalize (lg_sl ([.ref (E.2.1 1)]) ++ List.replicate (1 - (lg_sl ([.ref (E.2.1 1)])).length) Slot.unset).toArray = ls at hl ⊢
  have hl : lv_has ls 1 [(0, .ref (E.2.1 1))] := hl
  refine bc_keyZ (R := ({ frames := 1, cells := 0, slots := 0, locals := 21 })) E hx hb hr hlocks hK hAe (fun Q hret => ?_)
  clear B hD0 hlocks hr
  generalize ([.ref (E.2.1 1)] : List Value).toArray = args at htb hret ⊢
  clear hAe
  have hL20 : ∀ (s0 : Int32) (m : bp_M), bc_UI_close_L20 N s0 m = some (r, mr) → ∀ (ls : Array Slot) (H : Heap) (locs : List Loc), lv_has ls 1 [] → va_P E.1 bp_cl (bc_W E m) H → va_D A (bc_W E m) → va_S A s.heap H locs → W p l e ({ frames := 1, cells := 0, slots := 0, locals := 21 }) s mt args below meth c H locs 0 0 Q (F0 mt 20 ls [.int s0]) := by
    intro s0 m h ls H locs hl hP hD hS
    rw [bc_UI_close_L20] at h
    obtain ⟨hg1, h⟩ := bp_g_s h
    exact hret _ _ _ _ _ _ hg1 h hP hD hS (dt_bc_UI_close 10 rfl)
  have hL19 : ∀ (m : bp_M), bc_UI_close_L19 N m = some (r, mr) → ∀ (ls : Array Slot) (H : Heap) (locs : List Loc), lv_has ls 1 [] → va_P E.1 bp_cl (bc_W E m) H → va_D A (bc_W E m) → va_S A s.heap H locs → W p l e ({ frames := 1, cells := 0, slots := 0, locals := 21 }) s mt args below meth c H locs 0 0 Q (F0 mt 19 ls []) := by
    intro m h ls H locs hl hP hD hS
    rw [bc_UI_close_L19] at h
    refine lv_iconst (v := 0) hx hb (dt_bc_UI_close 9 rfl) (by decide) ?_
    exact hL20 _ _ h ls H locs (lv_sub hl [] rfl) hP hD hS
  suffices hgo : ∀ (H : Heap) (locs : List Loc), va_P E.1 bp_cl (bc_W E m) H → va_D A (bc_W E m) → va_S A s.heap H locs → W p l e ({ frames := 1, cells := 0, slots := 0, locals := 21 }) s mt args below meth c H locs 0 0 Q (F0 mt 0 ls []) from hgo _ _ hP hD hS
  clear hP hD hS
  intro H locs hP hD hS
  unfold bc_UI_close at h
  refine lv_aload_n hx hb (dt_bc_UI_close 0 rfl) rfl (lv_at hl 0 rfl) ?_
  refine va_get (D := E.1) (ci := 1) (v := .int (m.1 1 5)) (C := "BlockPictures$UnitIntake") (T := bF_UI) (N := 6) hx hb htb bc_in_UI hown hK hP 1 (bc_gUI E m) rfl 5 (by decide) (htb _ tw_106) (fun _ h9 => h9) rfl (dt_bc_UI_close 1 rfl) ?_
  refine lv_if_eq (tgt := 19) hx hb (dt_bc_UI_close 2 rfl) (by decide) (fun hc => ?_) (fun hc => ?_)
  · replace h := (if_pos hc).symm.trans h
    exact hL19 _ h ls H locs (lv_sub hl [] rfl) hP hD hS
  · replace h := (if_neg hc).symm.trans h
    refine lv_aload_n hx hb (dt_bc_UI_close 3 rfl) rfl (lv_at hl 0 rfl) ?_
    refine lv_iconst (v := 0) hx hb (dt_bc_UI_close 4 rfl) (by decide) ?_
    obtain ⟨z2, m1, hm1, h⟩ := bp_cI_s h
    refine bc_callI E hsub hS (va_runV (As := [.int 0]) (rest := []) ⟨hx, hb, hml, hown, htb⟩ (wbc_UI_endUnit l E N 0 m H.size z2 m1 hm1) (cwV 1 htb (bp_goodV tw_401 tw_403 tw_3 tw_70 tw_404) rfl rfl rfl ⟨rfl, hd_bc_UI_endUnit⟩ ⟨Nat.le_of_ble_eq_true rfl, Nat.le_of_ble_eq_true rfl⟩) (bc_preV E hsub hst hK hP hD hS (bc_gUI E m) rfl rfl _) rfl rfl hl.1 rfl (lv_room (Nat.le_of_ble_eq_true rfl)) (dt_bc_UI_close 5 rfl) ⟨Nat.zero_le _, Nat.zero_le _⟩) (fun H locs hP hD hS => ?_)
    refine lv_if_eq (tgt := 19) hx hb (dt_bc_UI_close 6 rfl) (by decide) (fun hc => ?_) (fun hc => ?_)
    · replace h := (if_pos hc).symm.trans h
      exact hL19 _ h ls H locs (lv_sub hl [] rfl) hP hD hS
    · replace h := (if_neg hc).symm.trans h
      refine lv_iconst (v := 1) hx hb (dt_bc_UI_close 7 rfl) (by decide) ?_
      refine lv_goto (tgt := 20) hx hb (dt_bc_UI_close 8 rfl) (by decide) ?_
      exact hL20 _ _ h ls H locs (lv_sub hl [] rfl) hP hD hS
set_option maxHeartbeats 4000000 in
set_option maxRecDepth 100000 in
theorem wbc_PA_clear (l : Launch) (E : bc_E) (N : Nat)  (m : bp_M) (sz : Nat) (mr : bp_M)  (h : bc_PA_clear N m = some mr) : Met l y_bc_PA_clear (Cond.code y_bc_PA_clear prog_6_method_2_code 1 none :: bp_tb) ({ frames := 0, cells := 0, slots := 0, locals := 0 }) (bc_Pc E m sz [.ref (E.2.1 2)]) (bc_Qv E m sz mr) 0 0 (va_A (bc_W E m) sz) := by
  refine Met.ofW (cc := prog_6_method_2_code) (maxL := 1) (ret := none) (by decide) rfl ?_
  intro p e s mt args below meth c s₁ B hml hv
  obtain ⟨rfl, hsz, hP, hK, hD0, hst⟩ := hv
  have hx := B.exec
  have hb := B.bytes
  have hr := B.returns
  have htb : ∀ w ∈ bp_tb, w.before _ s = true := fun w hw => atoms_spec (ws := Cond.code y_bc_PA_clear prog_6_method_2_code 1 none :: bp_tb) B.pre w (List.mem_cons_of_mem _ hw)
  have hown : s.vm.findClass "BlockPictures$Parameters" = some mt.cls := findClass_of_methodNamed B.named
  have hlocks := B.notSynchronized
  subst hsz
  have hD := hD0.self (sz := s.heap.size)
  generalize hAe : va_A (bc_W E m) s.heap.size = A at hD hst ⊢
  have hsub : ∀ (u : bp_M) (z q : Nat), s.heap.size ≤ z → va_A (bc_W E u) z q → A q := bc_sub hAe
  have hS : va_S A s.heap s.heap [] := va_S.rf
  have hl := lv_entry ([.ref (E.2.1 2)]) (n := 1) (Nat.le_of_ble_eq_true rfl)
  rw [lg_entry_eq]
  generalize (lg_sl ([.ref (E.2.1 2)]) ++ List.replicate (1 - (lg_sl ([.ref (E.2.1 2)])).length) Slot.unset).toArray = ls at hl ⊢
  have hl : lv_has ls 1 [(0, .ref (E.2.1 2))] := hl
  refine bc_keyV (R := ({ frames := 0, cells := 0, slots := 0, locals := 0 })) E hx hb hr hlocks hK hAe (fun Q hret => ?_)
  clear B hD0 hlocks hr
  generalize ([.ref (E.2.1 2)] : List Value).toArray = args at htb hret ⊢
  clear hAe
  suffices hgo : ∀ (H : Heap) (locs : List Loc), va_P E.1 bp_cl (bc_W E m) H → va_D A (bc_W E m) → va_S A s.heap H locs → W p l e ({ frames := 0, cells := 0, slots := 0, locals := 0 }) s mt args below meth c H locs 0 0 Q (F0 mt 0 ls []) from hgo _ _ hP hD hS
  clear hP hD hS
  intro H locs hP hD hS
  unfold bc_PA_clear at h
  refine lv_aload_n hx hb (dt_bc_PA_clear 0 rfl) rfl (lv_at hl 0 rfl) ?_
  refine lv_iconst (v := 0) hx hb (dt_bc_PA_clear 1 rfl) (by decide) ?_
  obtain ⟨hg2, h⟩ := bp_g_s h
  refine bc_pPA_0 E hx hb htb hown hK hP hD hS hg2 (htb _ tw_127) (dt_bc_PA_clear 2 rfl) (fun m1 em1 H locs hP hD hS => ?_)
  replace h := bp_nM_s h em1
  refine lv_aload_n hx hb (dt_bc_PA_clear 3 rfl) rfl (lv_at hl 0 rfl) ?_
  refine lv_iconst (v := 0) hx hb (dt_bc_PA_clear 4 rfl) (by decide) ?_
  obtain ⟨hg4, h⟩ := bp_g_s h
  refine bc_pPA_3 E hx hb htb hown hK hP hD hS hg4 (htb _ tw_131) (dt_bc_PA_clear 5 rfl) (fun m3 em3 H locs hP hD hS => ?_)
  replace h := bp_nM_s h em3
  exact hret _ _ _ _ _ h hP hD hS (dt_bc_PA_clear 6 rfl)
set_option maxHeartbeats 4000000 in
set_option maxRecDepth 100000 in
theorem wbc_UI_clear (l : Launch) (E : bc_E) (N : Nat)  (m : bp_M) (sz : Nat) (mr : bp_M)  (h : bc_UI_clear N m = some mr) : Met l y_bc_UI_clear (Cond.code y_bc_UI_clear prog_10_method_2_code 1 none :: bp_tb) ({ frames := 0, cells := 0, slots := 0, locals := 0 }) (bc_Pc E m sz [.ref (E.2.1 1)]) (bc_Qv E m sz mr) 0 0 (va_A (bc_W E m) sz) := by
  refine Met.ofW (cc := prog_10_method_2_code) (maxL := 1) (ret := none) (by decide) rfl ?_
  intro p e s mt args below meth c s₁ B hml hv
  obtain ⟨rfl, hsz, hP, hK, hD0, hst⟩ := hv
  have hx := B.exec
  have hb := B.bytes
  have hr := B.returns
  have htb : ∀ w ∈ bp_tb, w.before _ s = true := fun w hw => atoms_spec (ws := Cond.code y_bc_UI_clear prog_10_method_2_code 1 none :: bp_tb) B.pre w (List.mem_cons_of_mem _ hw)
  have hown : s.vm.findClass "BlockPictures$UnitIntake" = some mt.cls := findClass_of_methodNamed B.named
  have hlocks := B.notSynchronized
  subst hsz
  have hD := hD0.self (sz := s.heap.size)
  generalize hAe : va_A (bc_W E m) s.heap.size = A at hD hst ⊢
  have hsub : ∀ (u : bp_M) (z q : Nat), s.heap.size ≤ z → va_A (bc_W E u) z q → A q := bc_sub hAe
  have hS : va_S A s.heap s.heap [] := va_S.rf
  have hl := lv_entry ([.ref (E.2.1 1)]) (n := 1) (Nat.le_of_ble_eq_true rfl)
  rw [lg_entry_eq]
  generalize (lg_sl ([.ref (E.2.1 1)]) ++ List.replicate (1 - (lg_sl ([.ref (E.2.1 1)])).length) Slot.unset).toArray = ls at hl ⊢
  have hl : lv_has ls 1 [(0, .ref (E.2.1 1))] := hl
  refine bc_keyV (R := ({ frames := 0, cells := 0, slots := 0, locals := 0 })) E hx hb hr hlocks hK hAe (fun Q hret => ?_)
  clear B hD0 hlocks hr
  generalize ([.ref (E.2.1 1)] : List Value).toArray = args at htb hret ⊢
  clear hAe
  suffices hgo : ∀ (H : Heap) (locs : List Loc), va_P E.1 bp_cl (bc_W E m) H → va_D A (bc_W E m) → va_S A s.heap H locs → W p l e ({ frames := 0, cells := 0, slots := 0, locals := 0 }) s mt args below meth c H locs 0 0 Q (F0 mt 0 ls []) from hgo _ _ hP hD hS
  clear hP hD hS
  intro H locs hP hD hS
  unfold bc_UI_clear at h
  refine lv_aload_n hx hb (dt_bc_UI_clear 0 rfl) rfl (lv_at hl 0 rfl) ?_
  refine lv_iconst (v := 0) hx hb (dt_bc_UI_clear 1 rfl) (by decide) ?_
  refine bc_pUI_1 E hx hb htb hown hK hP hD hS (htb _ tw_100) (dt_bc_UI_clear 2 rfl) (fun m1 em1 H locs hP hD hS => ?_)
  replace h := bp_nM_s h em1
  refine lv_aload_n hx hb (dt_bc_UI_clear 3 rfl) rfl (lv_at hl 0 rfl) ?_
  refine lv_iconst (v := 0) hx hb (dt_bc_UI_clear 4 rfl) (by decide) ?_
  refine bc_pUI_2 E hx hb htb hown hK hP hD hS (htb _ tw_101) (dt_bc_UI_clear 5 rfl) (fun m2 em2 H locs hP hD hS => ?_)
  replace h := bp_nM_s h em2
  refine lv_aload_n hx hb (dt_bc_UI_clear 6 rfl) rfl (lv_at hl 0 rfl) ?_
  refine lv_iconst (v := 0) hx hb (dt_bc_UI_clear 7 rfl) (by decide) ?_
  refine bc_pUI_3 E hx hb htb hown hK hP hD hS (htb _ tw_103) (dt_bc_UI_clear 8 rfl) (fun m3 em3 H locs hP hD hS => ?_)
  replace h := bp_nM_s h em3
  refine lv_aload_n hx hb (dt_bc_UI_clear 9 rfl) rfl (lv_at hl 0 rfl) ?_
  refine lv_iconst (v := 0) hx hb (dt_bc_UI_clear 10 rfl) (by decide) ?_
  refine bc_pUI_4 E hx hb htb hown hK hP hD hS (htb _ tw_104) (dt_bc_UI_clear 11 rfl) (fun m4 em4 H locs hP hD hS => ?_)
  replace h := bp_nM_s h em4
  refine lv_aload_n hx hb (dt_bc_UI_clear 12 rfl) rfl (lv_at hl 0 rfl) ?_
  refine lv_iconst (v := 0) hx hb (dt_bc_UI_clear 13 rfl) (by decide) ?_
  obtain ⟨hg6, h⟩ := bp_g_s h
  refine bc_pUI_5 E hx hb htb hown hK hP hD hS hg6 (htb _ tw_106) (dt_bc_UI_clear 14 rfl) (fun m5 em5 H locs hP hD hS => ?_)
  replace h := bp_nM_s h em5
  exact hret _ _ _ _ _ h hP hD hS (dt_bc_UI_clear 15 rfl)
set_option maxHeartbeats 4000000 in
set_option maxRecDepth 100000 in
theorem wbc_BP_end (l : Launch) (E : bc_E) (N : Nat)  (m : bp_M) (sz : Nat) (r : Int32) (mr : bp_M)  (h : bc_BP_end N m = some (r, mr)) : Met l y_bc_BP_end (Cond.code y_bc_BP_end prog_1_method_3_code 2 (some .int) :: bp_tb) ({ frames := 6, cells := 0, slots := 0, locals := 169 }) (bc_Pc E m sz [.ref (E.2.1 0)]) (bc_Qi E m sz r mr) 0 0 (va_A (bc_W E m) sz) := by
  refine Met.ofW (cc := prog_1_method_3_code) (maxL := 2) (ret := (some .int)) (by decide) rfl ?_
  intro p e s mt args below meth c s₁ B hml hv
  obtain ⟨rfl, hsz, hP, hK, hD0, hst⟩ := hv
  have hx := B.exec
  have hb := B.bytes
  have hr := B.returns
  have htb : ∀ w ∈ bp_tb, w.before _ s = true := fun w hw => atoms_spec (ws := Cond.code y_bc_BP_end prog_1_method_3_code 2 (some .int) :: bp_tb) B.pre w (List.mem_cons_of_mem _ hw)
  have hown : s.vm.findClass "BlockPictures" = some mt.cls := findClass_of_methodNamed B.named
  have hlocks := B.notSynchronized
  subst hsz
  have hD := hD0.self (sz := s.heap.size)
  generalize hAe : va_A (bc_W E m) s.heap.size = A at hD hst ⊢
  have hsub : ∀ (u : bp_M) (z q : Nat), s.heap.size ≤ z → va_A (bc_W E u) z q → A q := bc_sub hAe
  have hS : va_S A s.heap s.heap [] := va_S.rf
  have hl := lv_entry ([.ref (E.2.1 0)]) (n := 2) (Nat.le_of_ble_eq_true rfl)
  rw [lg_entry_eq]
  generalize (lg_sl ([.ref (E.2.1 0)]) ++ List.replicate (2 - (lg_sl ([.ref (E.2.1 0)])).length) Slot.unset).toArray = ls at hl ⊢
  have hl : lv_has ls 2 [(0, .ref (E.2.1 0))] := hl
  refine bc_keyI (R := ({ frames := 6, cells := 0, slots := 0, locals := 169 })) E hx hb hr hlocks hK hAe (fun Q hret => ?_)
  clear B hD0 hlocks hr
  generalize ([.ref (E.2.1 0)] : List Value).toArray = args at htb hret ⊢
  clear hAe
  have hL59 : ∀ (x1 : Int32) (m : bp_M), bc_BP_end_L59 N x1 m = some (r, mr) → ∀ (ls : Array Slot) (H : Heap) (locs : List Loc), lv_has ls 2 [(0, .ref (E.2.1 0)), (1, .int x1)] → va_P E.1 bp_cl (bc_W E m) H → va_D A (bc_W E m) → va_S A s.heap H locs → W p l e ({ frames := 6, cells := 0, slots := 0, locals := 169 }) s mt args below meth c H locs 0 0 Q (F0 mt 59 ls []) := by
    intro x1 m h ls H locs hl hP hD hS
    rw [bc_BP_end_L59] at h
    refine lv_aload_n hx hb (dt_bc_BP_end 27 rfl) rfl (lv_at hl 0 rfl) ?_
    refine va_get (D := E.1) (ci := 0) (v := .ref (E.2.1 4)) (C := "BlockPictures") (T := bF_BP) (N := 7) hx hb htb bc_in_BP hown hK hP 0 (bc_gBP E m) rfl 3 (by decide) (htb _ tw_362) (fun _ h9 => h9) rfl (dt_bc_BP_end 28 rfl) ?_
    refine va_get (D := E.1) (ci := 4) (v := .int (m.1 4 5)) (C := "BlockPictures$PictureBuffer") (T := bF_PB) (N := 6) hx hb htb bc_in_PB hown hK hP 4 (bc_gPB E m) rfl 5 (by decide) (htb _ tw_317) (fun _ h9 => h9) rfl (dt_bc_BP_end 29 rfl) ?_
    refine lv_iload_n hx hb (dt_bc_BP_end 30 rfl) rfl (lv_at hl 1 rfl) ?_
    refine lv_isub hx hb (dt_bc_BP_end 31 rfl) ?_
    exact hret _ _ _ _ _ _ h hP hD hS (dt_bc_BP_end 32 rfl)
  have hL31 : ∀ (x1 : Int32) (m : bp_M), bc_BP_end_L31 N x1 m = some (r, mr) → ∀ (ls : Array Slot) (H : Heap) (locs : List Loc), lv_has ls 2 [(0, .ref (E.2.1 0)), (1, .int x1)] → va_P E.1 bp_cl (bc_W E m) H → va_D A (bc_W E m) → va_S A s.heap H locs → W p l e ({ frames := 6, cells := 0, slots := 0, locals := 169 }) s mt args below meth c H locs 0 0 Q (F0 mt 31 ls []) := by
    intro x1 m h ls H locs hl hP hD hS
    rw [bc_BP_end_L31] at h
    refine lv_aload_n hx hb (dt_bc_BP_end 15 rfl) rfl (lv_at hl 0 rfl) ?_
    refine va_get (D := E.1) (ci := 0) (v := .int (m.1 0 5)) (C := "BlockPictures") (T := bF_BP) (N := 7) hx hb htb bc_in_BP hown hK hP 0 (bc_gBP E m) rfl 5 (by decide) (htb _ tw_364) (fun _ h9 => h9) rfl (dt_bc_BP_end 16 rfl) ?_
    refine lv_if_ne (tgt := 59) hx hb (dt_bc_BP_end 17 rfl) (by decide) (fun hc => ?_) (fun hc => ?_)
    · replace h := (if_pos hc).symm.trans h
      exact hL59 _ _ h ls H locs (lv_sub hl [0, 1] rfl) hP hD hS
    · replace h := (if_neg (fun hn => hn hc)).symm.trans h
      refine lv_aload_n hx hb (dt_bc_BP_end 18 rfl) rfl (lv_at hl 0 rfl) ?_
      refine va_get (D := E.1) (ci := 0) (v := .ref (E.2.1 4)) (C := "BlockPictures") (T := bF_BP) (N := 7) hx hb htb bc_in_BP hown hK hP 0 (bc_gBP E m) rfl 3 (by decide) (htb _ tw_362) (fun _ h9 => h9) rfl (dt_bc_BP_end 19 rfl) ?_
      obtain ⟨m1, hm1, h⟩ := bp_cV_s h
      refine bc_callV E hsub hS (va_runV (As := []) (rest := []) ⟨hx, hb, hml, hown, htb⟩ (wbc_PB_showAll l E N  m H.size m1 hm1) (cwV 0 htb (bp_goodV tw_594 tw_595 tw_596 tw_77 tw_597) rfl rfl rfl ⟨rfl, hd_bc_PB_showAll⟩ ⟨Nat.le_of_ble_eq_true rfl, Nat.le_of_ble_eq_true rfl⟩) (bc_preV E hsub hst hK hP hD hS (bc_gPB E m) rfl rfl _) rfl rfl hl.1 rfl (lv_room (Nat.le_of_ble_eq_true rfl)) (dt_bc_BP_end 20 rfl) ⟨Nat.zero_le _, Nat.zero_le _⟩) (fun H locs hP hD hS => ?_)
      refine lv_aload_n hx hb (dt_bc_BP_end 21 rfl) rfl (lv_at hl 0 rfl) ?_
      refine va_get (D := E.1) (ci := 0) (v := .ref (E.2.1 2)) (C := "BlockPictures") (T := bF_BP) (N := 7) hx hb htb bc_in_BP hown hK hP 0 (bc_gBP E m1) rfl 1 (by decide) (htb _ tw_360) (fun _ h9 => h9) rfl (dt_bc_BP_end 22 rfl) ?_
      obtain ⟨m2, hm2, h⟩ := bp_cV_s h
      refine bc_callV E hsub hS (va_runV (As := []) (rest := []) ⟨hx, hb, hml, hown, htb⟩ (wbc_PA_clear l E N  m1 H.size m2 hm2) (cwV 0 htb (bp_goodV tw_640 tw_641 tw_642 tw_71 tw_643) rfl rfl rfl ⟨rfl, hd_bc_PA_clear⟩ ⟨Nat.le_of_ble_eq_true rfl, Nat.le_of_ble_eq_true rfl⟩) (bc_preV E hsub hst hK hP hD hS (bc_gPA E m1) rfl rfl _) rfl rfl hl.1 rfl (lv_room (Nat.le_of_ble_eq_true rfl)) (dt_bc_BP_end 23 rfl) ⟨Nat.zero_le _, Nat.zero_le _⟩) (fun H locs hP hD hS => ?_)
      refine lv_aload_n hx hb (dt_bc_BP_end 24 rfl) rfl (lv_at hl 0 rfl) ?_
      refine va_get (D := E.1) (ci := 0) (v := .ref (E.2.1 1)) (C := "BlockPictures") (T := bF_BP) (N := 7) hx hb htb bc_in_BP hown hK hP 0 (bc_gBP E m2) rfl 0 (by decide) (htb _ tw_359) (fun _ h9 => h9) rfl (dt_bc_BP_end 25 rfl) ?_
      obtain ⟨m3, hm3, h⟩ := bp_cV_s h
      refine bc_callV E hsub hS (va_runV (As := []) (rest := []) ⟨hx, hb, hml, hown, htb⟩ (wbc_UI_clear l E N  m2 H.size m3 hm3) (cwV 0 htb (bp_goodV tw_644 tw_645 tw_646 tw_70 tw_647) rfl rfl rfl ⟨rfl, hd_bc_UI_clear⟩ ⟨Nat.le_of_ble_eq_true rfl, Nat.le_of_ble_eq_true rfl⟩) (bc_preV E hsub hst hK hP hD hS (bc_gUI E m2) rfl rfl _) rfl rfl hl.1 rfl (lv_room (Nat.le_of_ble_eq_true rfl)) (dt_bc_BP_end 26 rfl) ⟨Nat.zero_le _, Nat.zero_le _⟩) (fun H locs hP hD hS => ?_)
      exact hL59 _ _ h ls H locs (lv_sub hl [0, 1] rfl) hP hD hS
  suffices hgo : ∀ (H : Heap) (locs : List Loc), va_P E.1 bp_cl (bc_W E m) H → va_D A (bc_W E m) → va_S A s.heap H locs → W p l e ({ frames := 6, cells := 0, slots := 0, locals := 169 }) s mt args below meth c H locs 0 0 Q (F0 mt 0 ls []) from hgo _ _ hP hD hS
  clear hP hD hS
  intro H locs hP hD hS
  unfold bc_BP_end at h
  refine lv_aload_n hx hb (dt_bc_BP_end 0 rfl) rfl (lv_at hl 0 rfl) ?_
  refine va_get (D := E.1) (ci := 0) (v := .int (m.1 0 5)) (C := "BlockPictures") (T := bF_BP) (N := 7) hx hb htb bc_in_BP hown hK hP 0 (bc_gBP E m) rfl 5 (by decide) (htb _ tw_364) (fun _ h9 => h9) rfl (dt_bc_BP_end 1 rfl) ?_
  refine lv_if_eq (tgt := 9) hx hb (dt_bc_BP_end 2 rfl) (by decide) (fun hc => ?_) (fun hc => ?_)
  · replace h := (if_pos hc).symm.trans h
    refine lv_aload_n hx hb (dt_bc_BP_end 5 rfl) rfl (lv_at hl 0 rfl) ?_
    refine va_get (D := E.1) (ci := 0) (v := .ref (E.2.1 4)) (C := "BlockPictures") (T := bF_BP) (N := 7) hx hb htb bc_in_BP hown hK hP 0 (bc_gBP E m) rfl 3 (by decide) (htb _ tw_362) (fun _ h9 => h9) rfl (dt_bc_BP_end 6 rfl) ?_
    refine va_get (D := E.1) (ci := 4) (v := .int (m.1 4 5)) (C := "BlockPictures$PictureBuffer") (T := bF_PB) (N := 6) hx hb htb bc_in_PB hown hK hP 4 (bc_gPB E m) rfl 5 (by decide) (htb _ tw_317) (fun _ h9 => h9) rfl (dt_bc_BP_end 7 rfl) ?_
    refine lv_topi (fun y1 ey1 => ?_)
    replace h := bp_nI_s h ey1
    refine lv_istore_n hx hb (dt_bc_BP_end 8 rfl) rfl hl (Nat.le_of_ble_eq_true rfl) rfl (fun ls hl => ?_)
    have hl : lv_has ls 2 [(1, .int y1), (0, .ref (E.2.1 0))] := hl
    refine lv_aload_n hx hb (dt_bc_BP_end 9 rfl) rfl (lv_at hl 1 rfl) ?_
    refine va_get (D := E.1) (ci := 0) (v := .ref (E.2.1 1)) (C := "BlockPictures") (T := bF_BP) (N := 7) hx hb htb bc_in_BP hown hK hP 0 (bc_gBP E m) rfl 0 (by decide) (htb _ tw_359) (fun _ h9 => h9) rfl (dt_bc_BP_end 10 rfl) ?_
    obtain ⟨z3, m2, hm2, h⟩ := bp_cI_s h
    refine bc_callI E hsub hS (va_runV (As := []) (rest := []) ⟨hx, hb, hml, hown, htb⟩ (wbc_UI_close l E N  m H.size z3 m2 hm2) (cwV 0 htb (bp_goodV tw_636 tw_637 tw_638 tw_70 tw_639) rfl rfl rfl ⟨rfl, hd_bc_UI_close⟩ ⟨Nat.le_of_ble_eq_true rfl, Nat.le_of_ble_eq_true rfl⟩) (bc_preV E hsub hst hK hP hD hS (bc_gUI E m) rfl rfl _) rfl rfl hl.1 rfl (lv_room (Nat.le_of_ble_eq_true rfl)) (dt_bc_BP_end 11 rfl) ⟨Nat.zero_le _, Nat.zero_le _⟩) (fun H locs hP hD hS => ?_)
    refine lv_if_eq (tgt := 31) hx hb (dt_bc_BP_end 12 rfl) (by decide) (fun hc => ?_) (fun hc => ?_)
    · replace h := (if_pos hc).symm.trans h
      exact hL31 _ _ h ls H locs (lv_sub hl [1, 0] rfl) hP hD hS
    · replace h := (if_neg hc).symm.trans h
      refine lv_aload_n hx hb (dt_bc_BP_end 13 rfl) rfl (lv_at hl 1 rfl) ?_
      obtain ⟨m4, hm4, h⟩ := bp_cV_s h
      refine bc_callV E hsub hS (va_runV (As := []) (rest := []) ⟨hx, hb, hml, hown, htb⟩ (wbc_BP_workThrough l E N  m2 H.size m4 hm4) (cwV 0 htb (bp_goodV tw_409 tw_411 tw_5 tw_69 tw_412) rfl rfl rfl ⟨rfl, hd_bc_BP_workThrough⟩ ⟨Nat.le_of_ble_eq_true rfl, Nat.le_of_ble_eq_true rfl⟩) (bc_preV E hsub hst hK hP hD hS (bc_gBP E m2) rfl rfl _) rfl rfl hl.1 rfl (lv_room (Nat.le_of_ble_eq_true rfl)) (dt_bc_BP_end 14 rfl) ⟨Nat.zero_le _, Nat.zero_le _⟩) (fun H locs hP hD hS => ?_)
      exact hL31 _ _ h ls H locs (lv_sub hl [1, 0] rfl) hP hD hS
  · replace h := (if_neg hc).symm.trans h
    refine lv_iconst (v := 0) hx hb (dt_bc_BP_end 3 rfl) (by decide) ?_
    exact hret _ _ _ _ _ _ h hP hD hS (dt_bc_BP_end 4 rfl)
set_option maxHeartbeats 4000000 in
set_option maxRecDepth 100000 in
theorem wbc_RO_clear (l : Launch) (E : bc_E) (N : Nat) (o0 : Nat) (m : bp_M) (sz : Nat) (mr : bp_M) (hp_o0 : isRO o0) (h : bc_RO_clear N o0 m = some mr) : Met l y_bc_RO_clear (Cond.code y_bc_RO_clear prog_3_method_2_code 2 none :: bp_tb) ({ frames := 1, cells := 0, slots := 0, locals := 21 }) (bc_Pc E m sz [.ref (E.2.1 o0)]) (bc_Qv E m sz mr) 0 0 (va_A (bc_W E m) sz) := by
  refine Met.ofW (cc := prog_3_method_2_code) (maxL := 2) (ret := none) (by decide) rfl ?_
  intro p e s mt args below meth c s₁ B hml hv
  obtain ⟨rfl, hsz, hP, hK, hD0, hst⟩ := hv
  have hx := B.exec
  have hb := B.bytes
  have hr := B.returns
  have htb : ∀ w ∈ bp_tb, w.before _ s = true := fun w hw => atoms_spec (ws := Cond.code y_bc_RO_clear prog_3_method_2_code 2 none :: bp_tb) B.pre w (List.mem_cons_of_mem _ hw)
  have hown : s.vm.findClass "BlockPictures$BlockRows" = some mt.cls := findClass_of_methodNamed B.named
  have hlocks := B.notSynchronized
  subst hsz
  have hD := hD0.self (sz := s.heap.size)
  generalize hAe : va_A (bc_W E m) s.heap.size = A at hD hst ⊢
  have hsub : ∀ (u : bp_M) (z q : Nat), s.heap.size ≤ z → va_A (bc_W E u) z q → A q := bc_sub hAe
  have hS : va_S A s.heap s.heap [] := va_S.rf
  have hl := lv_entry ([.ref (E.2.1 o0)]) (n := 2) (Nat.le_of_ble_eq_true rfl)
  rw [lg_entry_eq]
  generalize (lg_sl ([.ref (E.2.1 o0)]) ++ List.replicate (2 - (lg_sl ([.ref (E.2.1 o0)])).length) Slot.unset).toArray = ls at hl ⊢
  have hl : lv_has ls 2 [(0, .ref (E.2.1 o0))] := hl
  refine bc_keyV (R := ({ frames := 1, cells := 0, slots := 0, locals := 21 })) E hx hb hr hlocks hK hAe (fun Q hret => ?_)
  clear B hD0 hlocks hr
  generalize ([.ref (E.2.1 o0)] : List Value).toArray = args at htb hret ⊢
  clear hAe
  have hL19 : ∀ (m : bp_M), bc_RO_clear_L19 N o0 m = some mr → ∀ (ls : Array Slot) (H : Heap) (locs : List Loc), lv_has ls 2 [(0, .ref (E.2.1 o0))] → va_P E.1 bp_cl (bc_W E m) H → va_D A (bc_W E m) → va_S A s.heap H locs → W p l e ({ frames := 1, cells := 0, slots := 0, locals := 21 }) s mt args below meth c H locs 0 0 Q (F0 mt 19 ls []) := by
    intro m h ls H locs hl hP hD hS
    rw [bc_RO_clear_L19] at h
    refine lv_aload_n hx hb (dt_bc_RO_clear 10 rfl) rfl (lv_at hl 0 rfl) ?_
    refine lv_iconst (v := 0) hx hb (dt_bc_RO_clear 11 rfl) (by decide) ?_
    refine bc_pRO_5 E hx hb htb hown hK hP hD hS hp_o0 (htb _ tw_228) (dt_bc_RO_clear 12 rfl) (fun m1 em1 H locs hP hD hS => ?_)
    replace h := bp_nM_s h em1
    exact hret _ _ _ _ _ h hP hD hS (dt_bc_RO_clear 13 rfl)
  have hL2 : ∀ (n2 : Nat) (x1 : Int32) (m : bp_M), bc_RO_clear_L2 N o0 n2 x1 m = some mr → ∀ (ls : Array Slot) (H : Heap) (locs : List Loc), lv_has ls 2 [(0, .ref (E.2.1 o0)), (1, .int x1)] → va_P E.1 bp_cl (bc_W E m) H → va_D A (bc_W E m) → va_S A s.heap H locs → W p l e ({ frames := 1, cells := 0, slots := 0, locals := 21 }) s mt args below meth c H locs 0 0 Q (F0 mt 2 ls []) := by
    intro n2
    induction n2 with
    | zero =>
      intro x1 m h ls H locs hl hP hD hS
      rw [bc_RO_clear_L2] at h
      cases h
    | succ n2 ih2 =>
      intro x1 m h ls H locs hl hP hD hS
      rw [bc_RO_clear_L2] at h
      refine lv_iload_n hx hb (dt_bc_RO_clear 2 rfl) rfl (lv_at hl 1 rfl) ?_
      refine lv_bipush (v := 16) hx hb (dt_bc_RO_clear 3 rfl) (by decide) ?_
      refine lv_icmp_ge (tgt := 19) hx hb (dt_bc_RO_clear 4 rfl) (by decide) (fun hc => ?_) (fun hc => ?_)
      · replace h := (if_pos hc).symm.trans h
        exact hL19 _ h ls H locs (lv_sub hl [0] rfl) hP hD hS
      · replace h := (if_neg hc).symm.trans h
        refine lv_aload_n hx hb (dt_bc_RO_clear 5 rfl) rfl (lv_at hl 0 rfl) ?_
        refine lv_iload_n hx hb (dt_bc_RO_clear 6 rfl) rfl (lv_at hl 1 rfl) ?_
        obtain ⟨m1, hm1, h⟩ := bp_cV_s h
        refine bc_callV E hsub hS (va_runV (As := [.int x1]) (rest := []) ⟨hx, hb, hml, hown, htb⟩ (wbc_RO_clearBlock l E N o0 x1 m H.size m1 hp_o0 hm1) (cwV 1 htb (bp_goodV tw_660 tw_483 tw_484 tw_75 tw_485) rfl rfl rfl ⟨rfl, hd_bc_RO_clearBlock⟩ ⟨Nat.le_of_ble_eq_true rfl, Nat.le_of_ble_eq_true rfl⟩) (bc_preV E hsub hst hK hP hD hS (bc_gRO E m hp_o0) rfl rfl _) rfl rfl hl.1 rfl (lv_room (Nat.le_of_ble_eq_true rfl)) (dt_bc_RO_clear 7 rfl) ⟨Nat.zero_le _, Nat.zero_le _⟩) (fun H locs hP hD hS => ?_)
        obtain ⟨y2, ey2⟩ : ∃ z : Int32, z = x1 + 1 := ⟨_, rfl⟩
        replace h := bp_nI_s h ey2
        refine lv_iinc (k := 1) (v := y2) hx hb (dt_bc_RO_clear 8 rfl) hl rfl (by rw [ey2]; rfl) (Nat.le_of_ble_eq_true rfl) rfl (fun ls hl => ?_)
        have hl : lv_has ls 2 [(1, .int y2), (0, .ref (E.2.1 o0))] := hl
        refine lv_goto (tgt := 2) hx hb (dt_bc_RO_clear 9 rfl) (by decide) ?_
        exact ih2 _ _ h ls H locs (lv_sub hl [1, 0] rfl) hP hD hS
  suffices hgo : ∀ (H : Heap) (locs : List Loc), va_P E.1 bp_cl (bc_W E m) H → va_D A (bc_W E m) → va_S A s.heap H locs → W p l e ({ frames := 1, cells := 0, slots := 0, locals := 21 }) s mt args below meth c H locs 0 0 Q (F0 mt 0 ls []) from hgo _ _ hP hD hS
  clear hP hD hS
  intro H locs hP hD hS
  unfold bc_RO_clear at h
  refine lv_iconst (v := 0) hx hb (dt_bc_RO_clear 0 rfl) (by decide) ?_
  refine lv_istore_n hx hb (dt_bc_RO_clear 1 rfl) rfl hl (Nat.le_of_ble_eq_true rfl) rfl (fun ls hl => ?_)
  have hl : lv_has ls 2 [(1, .int 0), (0, .ref (E.2.1 o0))] := hl
  exact hL2 _ _ _ h ls H locs (lv_sub hl [1, 0] rfl) hP hD hS
set_option maxHeartbeats 4000000 in
set_option maxRecDepth 100000 in
theorem wbc_PD_forgetLatest (l : Launch) (E : bc_E) (N : Nat)  (m : bp_M) (sz : Nat) (mr : bp_M)  (h : bc_PD_forgetLatest N m = some mr) : Met l y_bc_PD_forgetLatest (Cond.code y_bc_PD_forgetLatest prog_9_method_2_code 1 none :: bp_tb) ({ frames := 2, cells := 0, slots := 0, locals := 42 }) (bc_Pc E m sz [.ref (E.2.1 3)]) (bc_Qv E m sz mr) 0 0 (va_A (bc_W E m) sz) := by
  refine Met.ofW (cc := prog_9_method_2_code) (maxL := 1) (ret := none) (by decide) rfl ?_
  intro p e s mt args below meth c s₁ B hml hv
  obtain ⟨rfl, hsz, hP, hK, hD0, hst⟩ := hv
  have hx := B.exec
  have hb := B.bytes
  have hr := B.returns
  have htb : ∀ w ∈ bp_tb, w.before _ s = true := fun w hw => atoms_spec (ws := Cond.code y_bc_PD_forgetLatest prog_9_method_2_code 1 none :: bp_tb) B.pre w (List.mem_cons_of_mem _ hw)
  have hown : s.vm.findClass "BlockPictures$PictureDecoder" = some mt.cls := findClass_of_methodNamed B.named
  have hlocks := B.notSynchronized
  subst hsz
  have hD := hD0.self (sz := s.heap.size)
  generalize hAe : va_A (bc_W E m) s.heap.size = A at hD hst ⊢
  have hsub : ∀ (u : bp_M) (z q : Nat), s.heap.size ≤ z → va_A (bc_W E u) z q → A q := bc_sub hAe
  have hS : va_S A s.heap s.heap [] := va_S.rf
  have hl := lv_entry ([.ref (E.2.1 3)]) (n := 1) (Nat.le_of_ble_eq_true rfl)
  rw [lg_entry_eq]
  generalize (lg_sl ([.ref (E.2.1 3)]) ++ List.replicate (1 - (lg_sl ([.ref (E.2.1 3)])).length) Slot.unset).toArray = ls at hl ⊢
  have hl : lv_has ls 1 [(0, .ref (E.2.1 3))] := hl
  refine bc_keyV (R := ({ frames := 2, cells := 0, slots := 0, locals := 42 })) E hx hb hr hlocks hK hAe (fun Q hret => ?_)
  clear B hD0 hlocks hr
  generalize ([.ref (E.2.1 3)] : List Value).toArray = args at htb hret ⊢
  clear hAe
  suffices hgo : ∀ (H : Heap) (locs : List Loc), va_P E.1 bp_cl (bc_W E m) H → va_D A (bc_W E m) → va_S A s.heap H locs → W p l e ({ frames := 2, cells := 0, slots := 0, locals := 42 }) s mt args below meth c H locs 0 0 Q (F0 mt 0 ls []) from hgo _ _ hP hD hS
  clear hP hD hS
  intro H locs hP hD hS
  unfold bc_PD_forgetLatest at h
  refine lv_aload_n hx hb (dt_bc_PD_forgetLatest 0 rfl) rfl (lv_at hl 0 rfl) ?_
  refine va_get (D := E.1) (ci := 3) (v := .ref (E.2.1 (m.2 3 2))) (C := "BlockPictures$PictureDecoder") (T := bF_PD) (N := 11) hx hb htb bc_in_PD hown hK hP 3 (bc_gPD E m) rfl 2 (by decide) (htb _ tw_263) (fun _ h9 => h9) rfl (dt_bc_PD_forgetLatest 1 rfl) ?_
  refine bp_topr E.2.1 (fun q1 eq1 => ?_)
  replace h := bp_nN_s h eq1
  obtain ⟨hg2, h⟩ := bp_g_s h
  obtain ⟨m3, hm3, h⟩ := bp_cV_s h
  refine bc_callV E hsub hS (va_runV (As := []) (rest := []) ⟨hx, hb, hml, hown, htb⟩ (wbc_RO_clear l E N q1 m H.size m3 hg2 hm3) (cwV 0 htb (bp_goodV tw_656 tw_657 tw_658 tw_75 tw_659) rfl rfl rfl ⟨rfl, hd_bc_RO_clear⟩ ⟨Nat.le_of_ble_eq_true rfl, Nat.le_of_ble_eq_true rfl⟩) (bc_preV E hsub hst hK hP hD hS (bc_gRO E m hg2) rfl rfl _) rfl rfl hl.1 rfl (lv_room (Nat.le_of_ble_eq_true rfl)) (dt_bc_PD_forgetLatest 2 rfl) ⟨Nat.zero_le _, Nat.zero_le _⟩) (fun H locs hP hD hS => ?_)
  exact hret _ _ _ _ _ h hP hD hS (dt_bc_PD_forgetLatest 3 rfl)
set_option maxHeartbeats 4000000 in
set_option maxRecDepth 100000 in
theorem wbc_PB_clear (l : Launch) (E : bc_E) (N : Nat)  (m : bp_M) (sz : Nat) (mr : bp_M)  (h : bc_PB_clear N m = some mr) : Met l y_bc_PB_clear (Cond.code y_bc_PB_clear prog_8_method_2_code 1 none :: bp_tb) ({ frames := 0, cells := 0, slots := 0, locals := 0 }) (bc_Pc E m sz [.ref (E.2.1 4)]) (bc_Qv E m sz mr) 0 0 (va_A (bc_W E m) sz) := by
  refine Met.ofW (cc := prog_8_method_2_code) (maxL := 1) (ret := none) (by decide) rfl ?_
  intro p e s mt args below meth c s₁ B hml hv
  obtain ⟨rfl, hsz, hP, hK, hD0, hst⟩ := hv
  have hx := B.exec
  have hb := B.bytes
  have hr := B.returns
  have htb : ∀ w ∈ bp_tb, w.before _ s = true := fun w hw => atoms_spec (ws := Cond.code y_bc_PB_clear prog_8_method_2_code 1 none :: bp_tb) B.pre w (List.mem_cons_of_mem _ hw)
  have hown : s.vm.findClass "BlockPictures$PictureBuffer" = some mt.cls := findClass_of_methodNamed B.named
  have hlocks := B.notSynchronized
  subst hsz
  have hD := hD0.self (sz := s.heap.size)
  generalize hAe : va_A (bc_W E m) s.heap.size = A at hD hst ⊢
  have hsub : ∀ (u : bp_M) (z q : Nat), s.heap.size ≤ z → va_A (bc_W E u) z q → A q := bc_sub hAe
  have hS : va_S A s.heap s.heap [] := va_S.rf
  have hl := lv_entry ([.ref (E.2.1 4)]) (n := 1) (Nat.le_of_ble_eq_true rfl)
  rw [lg_entry_eq]
  generalize (lg_sl ([.ref (E.2.1 4)]) ++ List.replicate (1 - (lg_sl ([.ref (E.2.1 4)])).length) Slot.unset).toArray = ls at hl ⊢
  have hl : lv_has ls 1 [(0, .ref (E.2.1 4))] := hl
  refine bc_keyV (R := ({ frames := 0, cells := 0, slots := 0, locals := 0 })) E hx hb hr hlocks hK hAe (fun Q hret => ?_)
  clear B hD0 hlocks hr
  generalize ([.ref (E.2.1 4)] : List Value).toArray = args at htb hret ⊢
  clear hAe
  suffices hgo : ∀ (H : Heap) (locs : List Loc), va_P E.1 bp_cl (bc_W E m) H → va_D A (bc_W E m) → va_S A s.heap H locs → W p l e ({ frames := 0, cells := 0, slots := 0, locals := 0 }) s mt args below meth c H locs 0 0 Q (F0 mt 0 ls []) from hgo _ _ hP hD hS
  clear hP hD hS
  intro H locs hP hD hS
  unfold bc_PB_clear at h
  refine lv_aload_n hx hb (dt_bc_PB_clear 0 rfl) rfl (lv_at hl 0 rfl) ?_
  refine lv_iconst (v := 0) hx hb (dt_bc_PB_clear 1 rfl) (by decide) ?_
  refine bc_pPB_1 E hx hb htb hown hK hP hD hS (htb _ tw_309) (dt_bc_PB_clear 2 rfl) (fun m1 em1 H locs hP hD hS => ?_)
  replace h := bp_nM_s h em1
  refine lv_aload_n hx hb (dt_bc_PB_clear 3 rfl) rfl (lv_at hl 0 rfl) ?_
  refine lv_iconst (v := 0) hx hb (dt_bc_PB_clear 4 rfl) (by decide) ?_
  refine bc_pPB_2 E hx hb htb hown hK hP hD hS (htb _ tw_311) (dt_bc_PB_clear 5 rfl) (fun m2 em2 H locs hP hD hS => ?_)
  replace h := bp_nM_s h em2
  refine lv_aload_n hx hb (dt_bc_PB_clear 6 rfl) rfl (lv_at hl 0 rfl) ?_
  refine lv_iconst (v := 0) hx hb (dt_bc_PB_clear 7 rfl) (by decide) ?_
  refine bc_pPB_5 E hx hb htb hown hK hP hD hS (htb _ tw_316) (dt_bc_PB_clear 8 rfl) (fun m3 em3 H locs hP hD hS => ?_)
  replace h := bp_nM_s h em3
  exact hret _ _ _ _ _ h hP hD hS (dt_bc_PB_clear 9 rfl)
set_option maxHeartbeats 4000000 in
set_option maxRecDepth 100000 in
theorem wbc_BP_reset (l : Launch) (E : bc_E) (N : Nat)  (m : bp_M) (sz : Nat) (mr : bp_M)  (h : bc_BP_reset N m = some mr) : Met l y_bc_BP_reset (Cond.code y_bc_BP_reset prog_1_method_4_code 1 none :: bp_tb) ({ frames := 3, cells := 0, slots := 0, locals := 62 }) (bc_Pc E m sz [.ref (E.2.1 0)]) (bc_Qv E m sz mr) 0 0 (va_A (bc_W E m) sz) := by
  refine Met.ofW (cc := prog_1_method_4_code) (maxL := 1) (ret := none) (by decide) rfl ?_
  intro p e s mt args below meth c s₁ B hml hv
  obtain ⟨rfl, hsz, hP, hK, hD0, hst⟩ := hv
  have hx := B.exec
  have hb := B.bytes
  have hr := B.returns
  have htb : ∀ w ∈ bp_tb, w.before _ s = true := fun w hw => atoms_spec (ws := Cond.code y_bc_BP_reset prog_1_method_4_code 1 none :: bp_tb) B.pre w (List.mem_cons_of_mem _ hw)
  have hown : s.vm.findClass "BlockPictures" = some mt.cls := findClass_of_methodNamed B.named
  have hlocks := B.notSynchronized
  subst hsz
  have hD := hD0.self (sz := s.heap.size)
  generalize hAe : va_A (bc_W E m) s.heap.size = A at hD hst ⊢
  have hsub : ∀ (u : bp_M) (z q : Nat), s.heap.size ≤ z → va_A (bc_W E u) z q → A q := bc_sub hAe
  have hS : va_S A s.heap s.heap [] := va_S.rf
  have hl := lv_entry ([.ref (E.2.1 0)]) (n := 1) (Nat.le_of_ble_eq_true rfl)
  rw [lg_entry_eq]
  generalize (lg_sl ([.ref (E.2.1 0)]) ++ List.replicate (1 - (lg_sl ([.ref (E.2.1 0)])).length) Slot.unset).toArray = ls at hl ⊢
  have hl : lv_has ls 1 [(0, .ref (E.2.1 0))] := hl
  refine bc_keyV (R := ({ frames := 3, cells := 0, slots := 0, locals := 62 })) E hx hb hr hlocks hK hAe (fun Q hret => ?_)
  clear B hD0 hlocks hr
  generalize ([.ref (E.2.1 0)] : List Value).toArray = args at htb hret ⊢
  clear hAe
  suffices hgo : ∀ (H : Heap) (locs : List Loc), va_P E.1 bp_cl (bc_W E m) H → va_D A (bc_W E m) → va_S A s.heap H locs → W p l e ({ frames := 3, cells := 0, slots := 0, locals := 62 }) s mt args below meth c H locs 0 0 Q (F0 mt 0 ls []) from hgo _ _ hP hD hS
  clear hP hD hS
  intro H locs hP hD hS
  unfold bc_BP_reset at h
  refine lv_aload_n hx hb (dt_bc_BP_reset 0 rfl) rfl (lv_at hl 0 rfl) ?_
  refine va_get (D := E.1) (ci := 0) (v := .ref (E.2.1 1)) (C := "BlockPictures") (T := bF_BP) (N := 7) hx hb htb bc_in_BP hown hK hP 0 (bc_gBP E m) rfl 0 (by decide) (htb _ tw_359) (fun _ h9 => h9) rfl (dt_bc_BP_reset 1 rfl) ?_
  obtain ⟨m1, hm1, h⟩ := bp_cV_s h
  refine bc_callV E hsub hS (va_runV (As := []) (rest := []) ⟨hx, hb, hml, hown, htb⟩ (wbc_UI_clear l E N  m H.size m1 hm1) (cwV 0 htb (bp_goodV tw_644 tw_645 tw_646 tw_70 tw_647) rfl rfl rfl ⟨rfl, hd_bc_UI_clear⟩ ⟨Nat.le_of_ble_eq_true rfl, Nat.le_of_ble_eq_true rfl⟩) (bc_preV E hsub hst hK hP hD hS (bc_gUI E m) rfl rfl _) rfl rfl hl.1 rfl (lv_room (Nat.le_of_ble_eq_true rfl)) (dt_bc_BP_reset 2 rfl) ⟨Nat.zero_le _, Nat.zero_le _⟩) (fun H locs hP hD hS => ?_)
  refine lv_aload_n hx hb (dt_bc_BP_reset 3 rfl) rfl (lv_at hl 0 rfl) ?_
  refine va_get (D := E.1) (ci := 0) (v := .ref (E.2.1 2)) (C := "BlockPictures") (T := bF_BP) (N := 7) hx hb htb bc_in_BP hown hK hP 0 (bc_gBP E m1) rfl 1 (by decide) (htb _ tw_360) (fun _ h9 => h9) rfl (dt_bc_BP_reset 4 rfl) ?_
  obtain ⟨m2, hm2, h⟩ := bp_cV_s h
  refine bc_callV E hsub hS (va_runV (As := []) (rest := []) ⟨hx, hb, hml, hown, htb⟩ (wbc_PA_clear l E N  m1 H.size m2 hm2) (cwV 0 htb (bp_goodV tw_640 tw_641 tw_642 tw_71 tw_643) rfl rfl rfl ⟨rfl, hd_bc_PA_clear⟩ ⟨Nat.le_of_ble_eq_true rfl, Nat.le_of_ble_eq_true rfl⟩) (bc_preV E hsub hst hK hP hD hS (bc_gPA E m1) rfl rfl _) rfl rfl hl.1 rfl (lv_room (Nat.le_of_ble_eq_true rfl)) (dt_bc_BP_reset 5 rfl) ⟨Nat.zero_le _, Nat.zero_le _⟩) (fun H locs hP hD hS => ?_)
  refine lv_aload_n hx hb (dt_bc_BP_reset 6 rfl) rfl (lv_at hl 0 rfl) ?_
  refine va_get (D := E.1) (ci := 0) (v := .ref (E.2.1 3)) (C := "BlockPictures") (T := bF_BP) (N := 7) hx hb htb bc_in_BP hown hK hP 0 (bc_gBP E m2) rfl 2 (by decide) (htb _ tw_361) (fun _ h9 => h9) rfl (dt_bc_BP_reset 7 rfl) ?_
  obtain ⟨m3, hm3, h⟩ := bp_cV_s h
  refine bc_callV E hsub hS (va_runV (As := []) (rest := []) ⟨hx, hb, hml, hown, htb⟩ (wbc_PD_forgetLatest l E N  m2 H.size m3 hm3) (cwV 0 htb (bp_goodV tw_652 tw_653 tw_654 tw_72 tw_655) rfl rfl rfl ⟨rfl, hd_bc_PD_forgetLatest⟩ ⟨Nat.le_of_ble_eq_true rfl, Nat.le_of_ble_eq_true rfl⟩) (bc_preV E hsub hst hK hP hD hS (bc_gPD E m2) rfl rfl _) rfl rfl hl.1 rfl (lv_room (Nat.le_of_ble_eq_true rfl)) (dt_bc_BP_reset 8 rfl) ⟨Nat.zero_le _, Nat.zero_le _⟩) (fun H locs hP hD hS => ?_)
  refine lv_aload_n hx hb (dt_bc_BP_reset 9 rfl) rfl (lv_at hl 0 rfl) ?_
  refine va_get (D := E.1) (ci := 0) (v := .ref (E.2.1 4)) (C := "BlockPictures") (T := bF_BP) (N := 7) hx hb htb bc_in_BP hown hK hP 0 (bc_gBP E m3) rfl 3 (by decide) (htb _ tw_362) (fun _ h9 => h9) rfl (dt_bc_BP_reset 10 rfl) ?_
  obtain ⟨m4, hm4, h⟩ := bp_cV_s h
  refine bc_callV E hsub hS (va_runV (As := []) (rest := []) ⟨hx, hb, hml, hown, htb⟩ (wbc_PB_clear l E N  m3 H.size m4 hm4) (cwV 0 htb (bp_goodV tw_661 tw_662 tw_663 tw_77 tw_664) rfl rfl rfl ⟨rfl, hd_bc_PB_clear⟩ ⟨Nat.le_of_ble_eq_true rfl, Nat.le_of_ble_eq_true rfl⟩) (bc_preV E hsub hst hK hP hD hS (bc_gPB E m3) rfl rfl _) rfl rfl hl.1 rfl (lv_room (Nat.le_of_ble_eq_true rfl)) (dt_bc_BP_reset 11 rfl) ⟨Nat.zero_le _, Nat.zero_le _⟩) (fun H locs hP hD hS => ?_)
  refine lv_aload_n hx hb (dt_bc_BP_reset 12 rfl) rfl (lv_at hl 0 rfl) ?_
  refine lv_iconst (v := 0) hx hb (dt_bc_BP_reset 13 rfl) (by decide) ?_
  refine bc_pBP_5 E hx hb htb hown hK hP hD hS (htb _ tw_364) (dt_bc_BP_reset 14 rfl) (fun m5 em5 H locs hP hD hS => ?_)
  replace h := bp_nM_s h em5
  refine lv_aload_n hx hb (dt_bc_BP_reset 15 rfl) rfl (lv_at hl 0 rfl) ?_
  refine lv_iconst (v := 0) hx hb (dt_bc_BP_reset 16 rfl) (by decide) ?_
  refine bc_pBP_6 E hx hb htb hown hK hP hD hS (htb _ tw_365) (dt_bc_BP_reset 17 rfl) (fun m6 em6 H locs hP hD hS => ?_)
  replace h := bp_nM_s h em6
  exact hret _ _ _ _ _ h hP hD hS (dt_bc_BP_reset 18 rfl)
set_option maxHeartbeats 4000000 in
set_option maxRecDepth 100000 in
theorem wbc_BP_fault (l : Launch) (E : bc_E) (N : Nat)  (m : bp_M) (sz : Nat) (r : Int32) (mr : bp_M)  (h : bc_BP_fault N m = some (r, mr)) : Met l y_bc_BP_fault (Cond.code y_bc_BP_fault prog_1_method_5_code 1 (some .int) :: bp_tb) ({ frames := 0, cells := 0, slots := 0, locals := 0 }) (bc_Pc E m sz [.ref (E.2.1 0)]) (bc_Qi E m sz r mr) 0 0 (va_A (bc_W E m) sz) := by
  refine Met.ofW (cc := prog_1_method_5_code) (maxL := 1) (ret := (some .int)) (by decide) rfl ?_
  intro p e s mt args below meth c s₁ B hml hv
  obtain ⟨rfl, hsz, hP, hK, hD0, hst⟩ := hv
  have hx := B.exec
  have hb := B.bytes
  have hr := B.returns
  have htb : ∀ w ∈ bp_tb, w.before _ s = true := fun w hw => atoms_spec (ws := Cond.code y_bc_BP_fault prog_1_method_5_code 1 (some .int) :: bp_tb) B.pre w (List.mem_cons_of_mem _ hw)
  have hown : s.vm.findClass "BlockPictures" = some mt.cls := findClass_of_methodNamed B.named
  have hlocks := B.notSynchronized
  subst hsz
  have hD := hD0.self (sz := s.heap.size)
  generalize hAe : va_A (bc_W E m) s.heap.size = A at hD hst ⊢
  have hsub : ∀ (u : bp_M) (z q : Nat), s.heap.size ≤ z → va_A (bc_W E u) z q → A q := bc_sub hAe
  have hS : va_S A s.heap s.heap [] := va_S.rf
  have hl := lv_entry ([.ref (E.2.1 0)]) (n := 1) (Nat.le_of_ble_eq_true rfl)
  rw [lg_entry_eq]
  generalize (lg_sl ([.ref (E.2.1 0)]) ++ List.replicate (1 - (lg_sl ([.ref (E.2.1 0)])).length) Slot.unset).toArray = ls at hl ⊢
  have hl : lv_has ls 1 [(0, .ref (E.2.1 0))] := hl
  refine bc_keyI (R := ({ frames := 0, cells := 0, slots := 0, locals := 0 })) E hx hb hr hlocks hK hAe (fun Q hret => ?_)
  clear B hD0 hlocks hr
  generalize ([.ref (E.2.1 0)] : List Value).toArray = args at htb hret ⊢
  clear hAe
  suffices hgo : ∀ (H : Heap) (locs : List Loc), va_P E.1 bp_cl (bc_W E m) H → va_D A (bc_W E m) → va_S A s.heap H locs → W p l e ({ frames := 0, cells := 0, slots := 0, locals := 0 }) s mt args below meth c H locs 0 0 Q (F0 mt 0 ls []) from hgo _ _ hP hD hS
  clear hP hD hS
  intro H locs hP hD hS
  unfold bc_BP_fault at h
  refine lv_aload_n hx hb (dt_bc_BP_fault 0 rfl) rfl (lv_at hl 0 rfl) ?_
  refine va_get (D := E.1) (ci := 0) (v := .int (m.1 0 5)) (C := "BlockPictures") (T := bF_BP) (N := 7) hx hb htb bc_in_BP hown hK hP 0 (bc_gBP E m) rfl 5 (by decide) (htb _ tw_364) (fun _ h9 => h9) rfl (dt_bc_BP_fault 1 rfl) ?_
  exact hret _ _ _ _ _ _ h hP hD hS (dt_bc_BP_fault 2 rfl)
set_option maxHeartbeats 4000000 in
set_option maxRecDepth 100000 in
theorem wbc_BP_units (l : Launch) (E : bc_E) (N : Nat)  (m : bp_M) (sz : Nat) (r : Int32) (mr : bp_M)  (h : bc_BP_units N m = some (r, mr)) : Met l y_bc_BP_units (Cond.code y_bc_BP_units prog_1_method_6_code 1 (some .int) :: bp_tb) ({ frames := 0, cells := 0, slots := 0, locals := 0 }) (bc_Pc E m sz [.ref (E.2.1 0)]) (bc_Qi E m sz r mr) 0 0 (va_A (bc_W E m) sz) := by
  refine Met.ofW (cc := prog_1_method_6_code) (maxL := 1) (ret := (some .int)) (by decide) rfl ?_
  intro p e s mt args below meth c s₁ B hml hv
  obtain ⟨rfl, hsz, hP, hK, hD0, hst⟩ := hv
  have hx := B.exec
  have hb := B.bytes
  have hr := B.returns
  have htb : ∀ w ∈ bp_tb, w.before _ s = true := fun w hw => atoms_spec (ws := Cond.code y_bc_BP_units prog_1_method_6_code 1 (some .int) :: bp_tb) B.pre w (List.mem_cons_of_mem _ hw)
  have hown : s.vm.findClass "BlockPictures" = some mt.cls := findClass_of_methodNamed B.named
  have hlocks := B.notSynchronized
  subst hsz
  have hD := hD0.self (sz := s.heap.size)
  generalize hAe : va_A (bc_W E m) s.heap.size = A at hD hst ⊢
  have hsub : ∀ (u : bp_M) (z q : Nat), s.heap.size ≤ z → va_A (bc_W E u) z q → A q := bc_sub hAe
  have hS : va_S A s.heap s.heap [] := va_S.rf
  have hl := lv_entry ([.ref (E.2.1 0)]) (n := 1) (Nat.le_of_ble_eq_true rfl)
  rw [lg_entry_eq]
  generalize (lg_sl ([.ref (E.2.1 0)]) ++ List.replicate (1 - (lg_sl ([.ref (E.2.1 0)])).length) Slot.unset).toArray = ls at hl ⊢
  have hl : lv_has ls 1 [(0, .ref (E.2.1 0))] := hl
  refine bc_keyI (R := ({ frames := 0, cells := 0, slots := 0, locals := 0 })) E hx hb hr hlocks hK hAe (fun Q hret => ?_)
  clear B hD0 hlocks hr
  generalize ([.ref (E.2.1 0)] : List Value).toArray = args at htb hret ⊢
  clear hAe
  suffices hgo : ∀ (H : Heap) (locs : List Loc), va_P E.1 bp_cl (bc_W E m) H → va_D A (bc_W E m) → va_S A s.heap H locs → W p l e ({ frames := 0, cells := 0, slots := 0, locals := 0 }) s mt args below meth c H locs 0 0 Q (F0 mt 0 ls []) from hgo _ _ hP hD hS
  clear hP hD hS
  intro H locs hP hD hS
  unfold bc_BP_units at h
  refine lv_aload_n hx hb (dt_bc_BP_units 0 rfl) rfl (lv_at hl 0 rfl) ?_
  refine va_get (D := E.1) (ci := 0) (v := .int (m.1 0 6)) (C := "BlockPictures") (T := bF_BP) (N := 7) hx hb htb bc_in_BP hown hK hP 0 (bc_gBP E m) rfl 6 (by decide) (htb _ tw_365) (fun _ h9 => h9) rfl (dt_bc_BP_units 1 rfl) ?_
  exact hret _ _ _ _ _ _ h hP hD hS (dt_bc_BP_units 2 rfl)
set_option maxHeartbeats 4000000 in
set_option maxRecDepth 100000 in
theorem wbc_BP_shown (l : Launch) (E : bc_E) (N : Nat)  (m : bp_M) (sz : Nat) (r : Int32) (mr : bp_M)  (h : bc_BP_shown N m = some (r, mr)) : Met l y_bc_BP_shown (Cond.code y_bc_BP_shown prog_1_method_7_code 1 (some .int) :: bp_tb) ({ frames := 0, cells := 0, slots := 0, locals := 0 }) (bc_Pc E m sz [.ref (E.2.1 0)]) (bc_Qi E m sz r mr) 0 0 (va_A (bc_W E m) sz) := by
  refine Met.ofW (cc := prog_1_method_7_code) (maxL := 1) (ret := (some .int)) (by decide) rfl ?_
  intro p e s mt args below meth c s₁ B hml hv
  obtain ⟨rfl, hsz, hP, hK, hD0, hst⟩ := hv
  have hx := B.exec
  have hb := B.bytes
  have hr := B.returns
  have htb : ∀ w ∈ bp_tb, w.before _ s = true := fun w hw => atoms_spec (ws := Cond.code y_bc_BP_shown prog_1_method_7_code 1 (some .int) :: bp_tb) B.pre w (List.mem_cons_of_mem _ hw)
  have hown : s.vm.findClass "BlockPictures" = some mt.cls := findClass_of_methodNamed B.named
  have hlocks := B.notSynchronized
  subst hsz
  have hD := hD0.self (sz := s.heap.size)
  generalize hAe : va_A (bc_W E m) s.heap.size = A at hD hst ⊢
  have hsub : ∀ (u : bp_M) (z q : Nat), s.heap.size ≤ z → va_A (bc_W E u) z q → A q := bc_sub hAe
  have hS : va_S A s.heap s.heap [] := va_S.rf
  have hl := lv_entry ([.ref (E.2.1 0)]) (n := 1) (Nat.le_of_ble_eq_true rfl)
  rw [lg_entry_eq]
  generalize (lg_sl ([.ref (E.2.1 0)]) ++ List.replicate (1 - (lg_sl ([.ref (E.2.1 0)])).length) Slot.unset).toArray = ls at hl ⊢
  have hl : lv_has ls 1 [(0, .ref (E.2.1 0))] := hl
  refine bc_keyI (R := ({ frames := 0, cells := 0, slots := 0, locals := 0 })) E hx hb hr hlocks hK hAe (fun Q hret => ?_)
  clear B hD0 hlocks hr
  generalize ([.ref (E.2.1 0)] : List Value).toArray = args at htb hret ⊢
  clear hAe
  suffices hgo : ∀ (H : Heap) (locs : List Loc), va_P E.1 bp_cl (bc_W E m) H → va_D A (bc_W E m) → va_S A s.heap H locs → W p l e ({ frames := 0, cells := 0, slots := 0, locals := 0 }) s mt args below meth c H locs 0 0 Q (F0 mt 0 ls []) from hgo _ _ hP hD hS
  clear hP hD hS
  intro H locs hP hD hS
  unfold bc_BP_shown at h
  refine lv_aload_n hx hb (dt_bc_BP_shown 0 rfl) rfl (lv_at hl 0 rfl) ?_
  refine va_get (D := E.1) (ci := 0) (v := .ref (E.2.1 4)) (C := "BlockPictures") (T := bF_BP) (N := 7) hx hb htb bc_in_BP hown hK hP 0 (bc_gBP E m) rfl 3 (by decide) (htb _ tw_362) (fun _ h9 => h9) rfl (dt_bc_BP_shown 1 rfl) ?_
  refine va_get (D := E.1) (ci := 4) (v := .int (m.1 4 5)) (C := "BlockPictures$PictureBuffer") (T := bF_PB) (N := 6) hx hb htb bc_in_PB hown hK hP 4 (bc_gPB E m) rfl 5 (by decide) (htb _ tw_317) (fun _ h9 => h9) rfl (dt_bc_BP_shown 2 rfl) ?_
  exact hret _ _ _ _ _ _ h hP hD hS (dt_bc_BP_shown 3 rfl)
set_option maxHeartbeats 4000000 in
set_option maxRecDepth 100000 in
theorem wbc_PB_shownOrder (l : Launch) (E : bc_E) (N : Nat) (a1 : Int32) (m : bp_M) (sz : Nat) (r : Int32) (mr : bp_M)  (h : bc_PB_shownOrder N a1 m = some (r, mr)) : Met l y_bc_PB_shownOrder (Cond.code y_bc_PB_shownOrder prog_8_method_3_code 2 (some .int) :: bp_tb) ({ frames := 0, cells := 0, slots := 0, locals := 0 }) (bc_Pc E m sz [.ref (E.2.1 4), .int a1]) (bc_Qi E m sz r mr) 0 0 (va_A (bc_W E m) sz) := by
  refine Met.ofW (cc := prog_8_method_3_code) (maxL := 2) (ret := (some .int)) (by decide) rfl ?_
  intro p e s mt args below meth c s₁ B hml hv
  obtain ⟨rfl, hsz, hP, hK, hD0, hst⟩ := hv
  have hx := B.exec
  have hb := B.bytes
  have hr := B.returns
  have htb : ∀ w ∈ bp_tb, w.before _ s = true := fun w hw => atoms_spec (ws := Cond.code y_bc_PB_shownOrder prog_8_method_3_code 2 (some .int) :: bp_tb) B.pre w (List.mem_cons_of_mem _ hw)
  have hown : s.vm.findClass "BlockPictures$PictureBuffer" = some mt.cls := findClass_of_methodNamed B.named
  have hlocks := B.notSynchronized
  subst hsz
  have hD := hD0.self (sz := s.heap.size)
  generalize hAe : va_A (bc_W E m) s.heap.size = A at hD hst ⊢
  have hsub : ∀ (u : bp_M) (z q : Nat), s.heap.size ≤ z → va_A (bc_W E u) z q → A q := bc_sub hAe
  have hS : va_S A s.heap s.heap [] := va_S.rf
  have hl := lv_entry ([.ref (E.2.1 4), .int a1]) (n := 2) (Nat.le_of_ble_eq_true rfl)
  rw [lg_entry_eq]
  generalize (lg_sl ([.ref (E.2.1 4), .int a1]) ++ List.replicate (2 - (lg_sl ([.ref (E.2.1 4), .int a1])).length) Slot.unset).toArray = ls at hl ⊢
  have hl : lv_has ls 2 [(0, .ref (E.2.1 4)), (1, .int a1)] := hl
  refine bc_keyI (R := ({ frames := 0, cells := 0, slots := 0, locals := 0 })) E hx hb hr hlocks hK hAe (fun Q hret => ?_)
  clear B hD0 hlocks hr
  generalize ([.ref (E.2.1 4), .int a1] : List Value).toArray = args at htb hret ⊢
  clear hAe
  have hL18 : ∀ (m : bp_M), bc_PB_shownOrder_L18 N a1 m = some (r, mr) → ∀ (ls : Array Slot) (H : Heap) (locs : List Loc), lv_has ls 2 [] → va_P E.1 bp_cl (bc_W E m) H → va_D A (bc_W E m) → va_S A s.heap H locs → W p l e ({ frames := 0, cells := 0, slots := 0, locals := 0 }) s mt args below meth c H locs 0 0 Q (F0 mt 18 ls []) := by
    intro m h ls H locs hl hP hD hS
    rw [bc_PB_shownOrder_L18] at h
    refine lv_iconst (v := (-1)) hx hb (dt_bc_PB_shownOrder 9 rfl) (by decide) ?_
    exact hret _ _ _ _ _ _ h hP hD hS (dt_bc_PB_shownOrder 10 rfl)
  suffices hgo : ∀ (H : Heap) (locs : List Loc), va_P E.1 bp_cl (bc_W E m) H → va_D A (bc_W E m) → va_S A s.heap H locs → W p l e ({ frames := 0, cells := 0, slots := 0, locals := 0 }) s mt args below meth c H locs 0 0 Q (F0 mt 0 ls []) from hgo _ _ hP hD hS
  clear hP hD hS
  intro H locs hP hD hS
  unfold bc_PB_shownOrder at h
  refine lv_iload_n hx hb (dt_bc_PB_shownOrder 0 rfl) rfl (lv_at hl 1 rfl) ?_
  refine lv_if_lt (tgt := 18) hx hb (dt_bc_PB_shownOrder 1 rfl) (by decide) (fun hc => ?_) (fun hc => ?_)
  · replace h := (if_pos hc).symm.trans h
    exact hL18 _ h ls H locs (lv_sub hl [] rfl) hP hD hS
  · replace h := (if_neg hc).symm.trans h
    refine lv_iload_n hx hb (dt_bc_PB_shownOrder 2 rfl) rfl (lv_at hl 1 rfl) ?_
    refine lv_bipush (v := 8) hx hb (dt_bc_PB_shownOrder 3 rfl) (by decide) ?_
    refine lv_icmp_ge (tgt := 18) hx hb (dt_bc_PB_shownOrder 4 rfl) (by decide) (fun hc => ?_) (fun hc => ?_)
    · replace h := (if_pos hc).symm.trans h
      exact hL18 _ h ls H locs (lv_sub hl [] rfl) hP hD hS
    · replace h := (if_neg hc).symm.trans h
      refine lv_iload_n hx hb (dt_bc_PB_shownOrder 5 rfl) rfl (lv_at hl 1 rfl) ?_
      refine lv_aload_n hx hb (dt_bc_PB_shownOrder 6 rfl) rfl (lv_at hl 0 rfl) ?_
      refine va_get (D := E.1) (ci := 4) (v := .int (m.1 4 5)) (C := "BlockPictures$PictureBuffer") (T := bF_PB) (N := 6) hx hb htb bc_in_PB hown hK hP 4 (bc_gPB E m) rfl 5 (by decide) (htb _ tw_316) (fun _ h9 => h9) rfl (dt_bc_PB_shownOrder 7 rfl) ?_
      refine lv_icmp_lt (tgt := 20) hx hb (dt_bc_PB_shownOrder 8 rfl) (by decide) (fun hc => ?_) (fun hc => ?_)
      · replace h := (if_pos hc).symm.trans h
        refine lv_aload_n hx hb (dt_bc_PB_shownOrder 11 rfl) rfl (lv_at hl 0 rfl) ?_
        refine va_get (D := E.1) (ci := 4) (v := .ref (E.2.1 21)) (C := "BlockPictures$PictureBuffer") (T := bF_PB) (N := 6) hx hb htb bc_in_PB hown hK hP 4 (bc_gPB E m) rfl 4 (by decide) (htb _ tw_315) (fun _ h9 => h9) rfl (dt_bc_PB_shownOrder 12 rfl) ?_
        refine lv_aload_n hx hb (dt_bc_PB_shownOrder 13 rfl) rfl (lv_at hl 0 rfl) ?_
        refine va_get (D := E.1) (ci := 4) (v := .int (m.1 4 5)) (C := "BlockPictures$PictureBuffer") (T := bF_PB) (N := 6) hx hb htb bc_in_PB hown hK hP 4 (bc_gPB E m) rfl 5 (by decide) (htb _ tw_316) (fun _ h9 => h9) rfl (dt_bc_PB_shownOrder 14 rfl) ?_
        refine lv_iconst (v := 1) hx hb (dt_bc_PB_shownOrder 15 rfl) (by decide) ?_
        refine lv_isub hx hb (dt_bc_PB_shownOrder 16 rfl) ?_
        refine lv_iload_n hx hb (dt_bc_PB_shownOrder 17 rfl) rfl (lv_at hl 1 rfl) ?_
        refine lv_isub hx hb (dt_bc_PB_shownOrder 18 rfl) ?_
        refine lv_bipush (v := 8) hx hb (dt_bc_PB_shownOrder 19 rfl) (by decide) ?_
        refine lv_irem hx hb (dt_bc_PB_shownOrder 20 rfl) (by decide) ?_
        obtain ⟨hg1, h⟩ := bp_gi_s h
        refine bc_lI E hx hb hK hP (bc_ga21 E) hg1 (dt_bc_PB_shownOrder 21 rfl) ?_
        exact hret _ _ _ _ _ _ h hP hD hS (dt_bc_PB_shownOrder 22 rfl)
      · replace h := (if_neg hc).symm.trans h
        exact hL18 _ h ls H locs (lv_sub hl [] rfl) hP hD hS
set_option maxHeartbeats 4000000 in
set_option maxRecDepth 100000 in
theorem wbc_BP_order (l : Launch) (E : bc_E) (N : Nat) (a1 : Int32) (m : bp_M) (sz : Nat) (r : Int32) (mr : bp_M)  (h : bc_BP_order N a1 m = some (r, mr)) : Met l y_bc_BP_order (Cond.code y_bc_BP_order prog_1_method_8_code 2 (some .int) :: bp_tb) ({ frames := 1, cells := 0, slots := 0, locals := 21 }) (bc_Pc E m sz [.ref (E.2.1 0), .int a1]) (bc_Qi E m sz r mr) 0 0 (va_A (bc_W E m) sz) := by
  refine Met.ofW (cc := prog_1_method_8_code) (maxL := 2) (ret := (some .int)) (by decide) rfl ?_
  intro p e s mt args below meth c s₁ B hml hv
  obtain ⟨rfl, hsz, hP, hK, hD0, hst⟩ := hv
  have hx := B.exec
  have hb := B.bytes
  have hr := B.returns
  have htb : ∀ w ∈ bp_tb, w.before _ s = true := fun w hw => atoms_spec (ws := Cond.code y_bc_BP_order prog_1_method_8_code 2 (some .int) :: bp_tb) B.pre w (List.mem_cons_of_mem _ hw)
  have hown : s.vm.findClass "BlockPictures" = some mt.cls := findClass_of_methodNamed B.named
  have hlocks := B.notSynchronized
  subst hsz
  have hD := hD0.self (sz := s.heap.size)
  generalize hAe : va_A (bc_W E m) s.heap.size = A at hD hst ⊢
  have hsub : ∀ (u : bp_M) (z q : Nat), s.heap.size ≤ z → va_A (bc_W E u) z q → A q := bc_sub hAe
  have hS : va_S A s.heap s.heap [] := va_S.rf
  have hl := lv_entry ([.ref (E.2.1 0), .int a1]) (n := 2) (Nat.le_of_ble_eq_true rfl)
  rw [lg_entry_eq]
  generalize (lg_sl ([.ref (E.2.1 0), .int a1]) ++ List.replicate (2 - (lg_sl ([.ref (E.2.1 0), .int a1])).length) Slot.unset).toArray = ls at hl ⊢
  have hl : lv_has ls 2 [(0, .ref (E.2.1 0)), (1, .int a1)] := hl
  refine bc_keyI (R := ({ frames := 1, cells := 0, slots := 0, locals := 21 })) E hx hb hr hlocks hK hAe (fun Q hret => ?_)
  clear B hD0 hlocks hr
  generalize ([.ref (E.2.1 0), .int a1] : List Value).toArray = args at htb hret ⊢
  clear hAe
  suffices hgo : ∀ (H : Heap) (locs : List Loc), va_P E.1 bp_cl (bc_W E m) H → va_D A (bc_W E m) → va_S A s.heap H locs → W p l e ({ frames := 1, cells := 0, slots := 0, locals := 21 }) s mt args below meth c H locs 0 0 Q (F0 mt 0 ls []) from hgo _ _ hP hD hS
  clear hP hD hS
  intro H locs hP hD hS
  unfold bc_BP_order at h
  refine lv_aload_n hx hb (dt_bc_BP_order 0 rfl) rfl (lv_at hl 0 rfl) ?_
  refine va_get (D := E.1) (ci := 0) (v := .ref (E.2.1 4)) (C := "BlockPictures") (T := bF_BP) (N := 7) hx hb htb bc_in_BP hown hK hP 0 (bc_gBP E m) rfl 3 (by decide) (htb _ tw_362) (fun _ h9 => h9) rfl (dt_bc_BP_order 1 rfl) ?_
  refine lv_iload_n hx hb (dt_bc_BP_order 2 rfl) rfl (lv_at hl 1 rfl) ?_
  obtain ⟨z2, m1, hm1, h⟩ := bp_cI_s h
  refine bc_callI E hsub hS (va_runV (As := [.int a1]) (rest := []) ⟨hx, hb, hml, hown, htb⟩ (wbc_PB_shownOrder l E N a1 m H.size z2 m1 hm1) (cwV 1 htb (bp_goodV tw_681 tw_682 tw_683 tw_77 tw_684) rfl rfl rfl ⟨rfl, hd_bc_PB_shownOrder⟩ ⟨Nat.le_of_ble_eq_true rfl, Nat.le_of_ble_eq_true rfl⟩) (bc_preV E hsub hst hK hP hD hS (bc_gPB E m) rfl rfl _) rfl rfl hl.1 rfl (lv_room (Nat.le_of_ble_eq_true rfl)) (dt_bc_BP_order 3 rfl) ⟨Nat.zero_le _, Nat.zero_le _⟩) (fun H locs hP hD hS => ?_)
  exact hret _ _ _ _ _ _ h hP hD hS (dt_bc_BP_order 4 rfl)
set_option maxHeartbeats 4000000 in
set_option maxRecDepth 100000 in
theorem wbc_BP_sample (l : Launch) (E : bc_E) (N : Nat) (a1 : Int32) (m : bp_M) (sz : Nat) (r : Int32) (mr : bp_M)  (h : bc_BP_sample N a1 m = some (r, mr)) : Met l y_bc_BP_sample (Cond.code y_bc_BP_sample prog_1_method_9_code 2 (some .int) :: bp_tb) ({ frames := 0, cells := 0, slots := 0, locals := 0 }) (bc_Pc E m sz [.ref (E.2.1 0), .int a1]) (bc_Qi E m sz r mr) 0 0 (va_A (bc_W E m) sz) := by
  refine Met.ofW (cc := prog_1_method_9_code) (maxL := 2) (ret := (some .int)) (by decide) rfl ?_
  intro p e s mt args below meth c s₁ B hml hv
  obtain ⟨rfl, hsz, hP, hK, hD0, hst⟩ := hv
  have hx := B.exec
  have hb := B.bytes
  have hr := B.returns
  have htb : ∀ w ∈ bp_tb, w.before _ s = true := fun w hw => atoms_spec (ws := Cond.code y_bc_BP_sample prog_1_method_9_code 2 (some .int) :: bp_tb) B.pre w (List.mem_cons_of_mem _ hw)
  have hown : s.vm.findClass "BlockPictures" = some mt.cls := findClass_of_methodNamed B.named
  have hlocks := B.notSynchronized
  subst hsz
  have hD := hD0.self (sz := s.heap.size)
  generalize hAe : va_A (bc_W E m) s.heap.size = A at hD hst ⊢
  have hsub : ∀ (u : bp_M) (z q : Nat), s.heap.size ≤ z → va_A (bc_W E u) z q → A q := bc_sub hAe
  have hS : va_S A s.heap s.heap [] := va_S.rf
  have hl := lv_entry ([.ref (E.2.1 0), .int a1]) (n := 2) (Nat.le_of_ble_eq_true rfl)
  rw [lg_entry_eq]
  generalize (lg_sl ([.ref (E.2.1 0), .int a1]) ++ List.replicate (2 - (lg_sl ([.ref (E.2.1 0), .int a1])).length) Slot.unset).toArray = ls at hl ⊢
  have hl : lv_has ls 2 [(0, .ref (E.2.1 0)), (1, .int a1)] := hl
  refine bc_keyI (R := ({ frames := 0, cells := 0, slots := 0, locals := 0 })) E hx hb hr hlocks hK hAe (fun Q hret => ?_)
  clear B hD0 hlocks hr
  generalize ([.ref (E.2.1 0), .int a1] : List Value).toArray = args at htb hret ⊢
  clear hAe
  have hL21 : ∀ (m : bp_M), bc_BP_sample_L21 N a1 m = some (r, mr) → ∀ (ls : Array Slot) (H : Heap) (locs : List Loc), lv_has ls 2 [] → va_P E.1 bp_cl (bc_W E m) H → va_D A (bc_W E m) → va_S A s.heap H locs → W p l e ({ frames := 0, cells := 0, slots := 0, locals := 0 }) s mt args below meth c H locs 0 0 Q (F0 mt 21 ls []) := by
    intro m h ls H locs hl hP hD hS
    rw [bc_BP_sample_L21] at h
    refine lv_iconst (v := (-1)) hx hb (dt_bc_BP_sample 9 rfl) (by decide) ?_
    exact hret _ _ _ _ _ _ h hP hD hS (dt_bc_BP_sample 10 rfl)
  suffices hgo : ∀ (H : Heap) (locs : List Loc), va_P E.1 bp_cl (bc_W E m) H → va_D A (bc_W E m) → va_S A s.heap H locs → W p l e ({ frames := 0, cells := 0, slots := 0, locals := 0 }) s mt args below meth c H locs 0 0 Q (F0 mt 0 ls []) from hgo _ _ hP hD hS
  clear hP hD hS
  intro H locs hP hD hS
  unfold bc_BP_sample at h
  refine lv_aload_n hx hb (dt_bc_BP_sample 0 rfl) rfl (lv_at hl 0 rfl) ?_
  refine va_get (D := E.1) (ci := 0) (v := .ref (E.2.1 4)) (C := "BlockPictures") (T := bF_BP) (N := 7) hx hb htb bc_in_BP hown hK hP 0 (bc_gBP E m) rfl 3 (by decide) (htb _ tw_362) (fun _ h9 => h9) rfl (dt_bc_BP_sample 1 rfl) ?_
  refine va_get (D := E.1) (ci := 4) (v := .int (m.1 4 5)) (C := "BlockPictures$PictureBuffer") (T := bF_PB) (N := 6) hx hb htb bc_in_PB hown hK hP 4 (bc_gPB E m) rfl 5 (by decide) (htb _ tw_317) (fun _ h9 => h9) rfl (dt_bc_BP_sample 2 rfl) ?_
  refine lv_if_eq (tgt := 21) hx hb (dt_bc_BP_sample 3 rfl) (by decide) (fun hc => ?_) (fun hc => ?_)
  · replace h := (if_pos hc).symm.trans h
    exact hL21 _ h ls H locs (lv_sub hl [] rfl) hP hD hS
  · replace h := (if_neg hc).symm.trans h
    refine lv_iload_n hx hb (dt_bc_BP_sample 4 rfl) rfl (lv_at hl 1 rfl) ?_
    refine lv_if_lt (tgt := 21) hx hb (dt_bc_BP_sample 5 rfl) (by decide) (fun hc => ?_) (fun hc => ?_)
    · replace h := (if_pos hc).symm.trans h
      exact hL21 _ h ls H locs (lv_sub hl [] rfl) hP hD hS
    · replace h := (if_neg hc).symm.trans h
      refine lv_iload_n hx hb (dt_bc_BP_sample 6 rfl) rfl (lv_at hl 1 rfl) ?_
      refine lv_sipush (v := 256) hx hb (dt_bc_BP_sample 7 rfl) (by decide) ?_
      refine lv_icmp_lt (tgt := 23) hx hb (dt_bc_BP_sample 8 rfl) (by decide) (fun hc => ?_) (fun hc => ?_)
      · replace h := (if_pos hc).symm.trans h
        refine lv_aload_n hx hb (dt_bc_BP_sample 11 rfl) rfl (lv_at hl 0 rfl) ?_
        refine va_get (D := E.1) (ci := 0) (v := .ref (E.2.1 4)) (C := "BlockPictures") (T := bF_BP) (N := 7) hx hb htb bc_in_BP hown hK hP 0 (bc_gBP E m) rfl 3 (by decide) (htb _ tw_362) (fun _ h9 => h9) rfl (dt_bc_BP_sample 12 rfl) ?_
        refine va_get (D := E.1) (ci := 4) (v := .ref (E.2.1 20)) (C := "BlockPictures$PictureBuffer") (T := bF_PB) (N := 6) hx hb htb bc_in_PB hown hK hP 4 (bc_gPB E m) rfl 3 (by decide) (htb _ tw_314) (fun _ h9 => h9) rfl (dt_bc_BP_sample 13 rfl) ?_
        refine lv_iload_n hx hb (dt_bc_BP_sample 14 rfl) rfl (lv_at hl 1 rfl) ?_
        obtain ⟨hg1, h⟩ := bp_gi_s h
        refine bc_lI E hx hb hK hP (bc_ga20 E) hg1 (dt_bc_BP_sample 15 rfl) ?_
        exact hret _ _ _ _ _ _ h hP hD hS (dt_bc_BP_sample 16 rfl)
      · replace h := (if_neg hc).symm.trans h
        exact hL21 _ h ls H locs (lv_sub hl [] rfl) hP hD hS
set_option maxHeartbeats 4000000 in
set_option maxRecDepth 100000 in
theorem wbc_BP_held (l : Launch) (E : bc_E) (N : Nat)  (m : bp_M) (sz : Nat) (r : Int32) (mr : bp_M)  (h : bc_BP_held N m = some (r, mr)) : Met l y_bc_BP_held (Cond.code y_bc_BP_held prog_1_method_10_code 1 (some .int) :: bp_tb) ({ frames := 0, cells := 0, slots := 0, locals := 0 }) (bc_Pc E m sz [.ref (E.2.1 0)]) (bc_Qi E m sz r mr) 0 0 (va_A (bc_W E m) sz) := by
  refine Met.ofW (cc := prog_1_method_10_code) (maxL := 1) (ret := (some .int)) (by decide) rfl ?_
  intro p e s mt args below meth c s₁ B hml hv
  obtain ⟨rfl, hsz, hP, hK, hD0, hst⟩ := hv
  have hx := B.exec
  have hb := B.bytes
  have hr := B.returns
  have htb : ∀ w ∈ bp_tb, w.before _ s = true := fun w hw => atoms_spec (ws := Cond.code y_bc_BP_held prog_1_method_10_code 1 (some .int) :: bp_tb) B.pre w (List.mem_cons_of_mem _ hw)
  have hown : s.vm.findClass "BlockPictures" = some mt.cls := findClass_of_methodNamed B.named
  have hlocks := B.notSynchronized
  subst hsz
  have hD := hD0.self (sz := s.heap.size)
  generalize hAe : va_A (bc_W E m) s.heap.size = A at hD hst ⊢
  have hsub : ∀ (u : bp_M) (z q : Nat), s.heap.size ≤ z → va_A (bc_W E u) z q → A q := bc_sub hAe
  have hS : va_S A s.heap s.heap [] := va_S.rf
  have hl := lv_entry ([.ref (E.2.1 0)]) (n := 1) (Nat.le_of_ble_eq_true rfl)
  rw [lg_entry_eq]
  generalize (lg_sl ([.ref (E.2.1 0)]) ++ List.replicate (1 - (lg_sl ([.ref (E.2.1 0)])).length) Slot.unset).toArray = ls at hl ⊢
  have hl : lv_has ls 1 [(0, .ref (E.2.1 0))] := hl
  refine bc_keyI (R := ({ frames := 0, cells := 0, slots := 0, locals := 0 })) E hx hb hr hlocks hK hAe (fun Q hret => ?_)
  clear B hD0 hlocks hr
  generalize ([.ref (E.2.1 0)] : List Value).toArray = args at htb hret ⊢
  clear hAe
  suffices hgo : ∀ (H : Heap) (locs : List Loc), va_P E.1 bp_cl (bc_W E m) H → va_D A (bc_W E m) → va_S A s.heap H locs → W p l e ({ frames := 0, cells := 0, slots := 0, locals := 0 }) s mt args below meth c H locs 0 0 Q (F0 mt 0 ls []) from hgo _ _ hP hD hS
  clear hP hD hS
  intro H locs hP hD hS
  unfold bc_BP_held at h
  refine lv_aload_n hx hb (dt_bc_BP_held 0 rfl) rfl (lv_at hl 0 rfl) ?_
  refine va_get (D := E.1) (ci := 0) (v := .ref (E.2.1 4)) (C := "BlockPictures") (T := bF_BP) (N := 7) hx hb htb bc_in_BP hown hK hP 0 (bc_gBP E m) rfl 3 (by decide) (htb _ tw_362) (fun _ h9 => h9) rfl (dt_bc_BP_held 1 rfl) ?_
  refine va_get (D := E.1) (ci := 4) (v := .int (m.1 4 1)) (C := "BlockPictures$PictureBuffer") (T := bF_PB) (N := 6) hx hb htb bc_in_PB hown hK hP 4 (bc_gPB E m) rfl 1 (by decide) (htb _ tw_310) (fun _ h9 => h9) rfl (dt_bc_BP_held 2 rfl) ?_
  exact hret _ _ _ _ _ _ h hP hD hS (dt_bc_BP_held 3 rfl)
set_option maxHeartbeats 4000000 in
set_option maxRecDepth 100000 in
theorem wbc_BP_heldState (l : Launch) (E : bc_E) (N : Nat) (a1 : Int32) (m : bp_M) (sz : Nat) (r : Int32) (mr : bp_M)  (h : bc_BP_heldState N a1 m = some (r, mr)) : Met l y_bc_BP_heldState (Cond.code y_bc_BP_heldState prog_1_method_11_code 3 (some .int) :: bp_tb) ({ frames := 0, cells := 0, slots := 0, locals := 0 }) (bc_Pc E m sz [.ref (E.2.1 0), .int a1]) (bc_Qi E m sz r mr) 0 0 (va_A (bc_W E m) sz) := by
  refine Met.ofW (cc := prog_1_method_11_code) (maxL := 3) (ret := (some .int)) (by decide) rfl ?_
  intro p e s mt args below meth c s₁ B hml hv
  obtain ⟨rfl, hsz, hP, hK, hD0, hst⟩ := hv
  have hx := B.exec
  have hb := B.bytes
  have hr := B.returns
  have htb : ∀ w ∈ bp_tb, w.before _ s = true := fun w hw => atoms_spec (ws := Cond.code y_bc_BP_heldState prog_1_method_11_code 3 (some .int) :: bp_tb) B.pre w (List.mem_cons_of_mem _ hw)
  have hown : s.vm.findClass "BlockPictures" = some mt.cls := findClass_of_methodNamed B.named
  have hlocks := B.notSynchronized
  subst hsz
  have hD := hD0.self (sz := s.heap.size)
  generalize hAe : va_A (bc_W E m) s.heap.size = A at hD hst ⊢
  have hsub : ∀ (u : bp_M) (z q : Nat), s.heap.size ≤ z → va_A (bc_W E u) z q → A q := bc_sub hAe
  have hS : va_S A s.heap s.heap [] := va_S.rf
  have hl := lv_entry ([.ref (E.2.1 0), .int a1]) (n := 3) (Nat.le_of_ble_eq_true rfl)
  rw [lg_entry_eq]
  generalize (lg_sl ([.ref (E.2.1 0), .int a1]) ++ List.replicate (3 - (lg_sl ([.ref (E.2.1 0), .int a1])).length) Slot.unset).toArray = ls at hl ⊢
  have hl : lv_has ls 3 [(0, .ref (E.2.1 0)), (1, .int a1)] := hl
  refine bc_keyI (R := ({ frames := 0, cells := 0, slots := 0, locals := 0 })) E hx hb hr hlocks hK hAe (fun Q hret => ?_)
  clear B hD0 hlocks hr
  generalize ([.ref (E.2.1 0), .int a1] : List Value).toArray = args at htb hret ⊢
  clear hAe
  have hL58 : ∀ (s0 : Int32) (s1 : Int32) (m : bp_M), bc_BP_heldState_L58 N a1 s0 s1 m = some (r, mr) → ∀ (ls : Array Slot) (H : Heap) (locs : List Loc), lv_has ls 3 [] → va_P E.1 bp_cl (bc_W E m) H → va_D A (bc_W E m) → va_S A s.heap H locs → W p l e ({ frames := 0, cells := 0, slots := 0, locals := 0 }) s mt args below meth c H locs 0 0 Q (F0 mt 58 ls [.int s0, .int s1]) := by
    intro s0 s1 m h ls H locs hl hP hD hS
    rw [bc_BP_heldState_L58] at h
    refine lv_iadd hx hb (dt_bc_BP_heldState 32 rfl) ?_
    exact hret _ _ _ _ _ _ h hP hD hS (dt_bc_BP_heldState 33 rfl)
  have hL45 : ∀ (ql2 : Nat) (s0 : Int32) (s1 : Int32) (m : bp_M), bc_BP_heldState_L45 N a1 ql2 s0 s1 m = some (r, mr) → isPI ql2 → ∀ (ls : Array Slot) (H : Heap) (locs : List Loc), lv_has ls 3 [(2, .ref (E.2.1 ql2))] → va_P E.1 bp_cl (bc_W E m) H → va_D A (bc_W E m) → va_S A s.heap H locs → W p l e ({ frames := 0, cells := 0, slots := 0, locals := 0 }) s mt args below meth c H locs 0 0 Q (F0 mt 45 ls [.int s0, .int s1]) := by
    intro ql2 s0 s1 m h hp_ql2 ls H locs hl hP hD hS
    rw [bc_BP_heldState_L45] at h
    refine lv_iadd hx hb (dt_bc_BP_heldState 25 rfl) ?_
    refine lv_aload_n hx hb (dt_bc_BP_heldState 26 rfl) rfl (lv_at hl 0 rfl) ?_
    refine va_get (D := E.1) (ci := 9) (v := .int (m.1 ql2 3)) (C := "BlockPictures$Picture") (T := bF_PI) (N := 4) hx hb htb bc_in_PI hown hK hP ql2 (bc_gPI E m hp_ql2) rfl 3 (by decide) (htb _ tw_199) (fun _ h9 => h9) rfl (dt_bc_BP_heldState 27 rfl) ?_
    refine lv_if_eq (tgt := 57) hx hb (dt_bc_BP_heldState 28 rfl) (by decide) (fun hc => ?_) (fun hc => ?_)
    · replace h := (if_pos hc).symm.trans h
      refine lv_iconst (v := 0) hx hb (dt_bc_BP_heldState 31 rfl) (by decide) ?_
      exact hL58 _ _ _ h ls H locs (lv_sub hl [] rfl) hP hD hS
    · replace h := (if_neg hc).symm.trans h
      refine lv_iconst (v := 2) hx hb (dt_bc_BP_heldState 29 rfl) (by decide) ?_
      refine lv_goto (tgt := 58) hx hb (dt_bc_BP_heldState 30 rfl) (by decide) ?_
      exact hL58 _ _ _ h ls H locs (lv_sub hl [] rfl) hP hD hS
  have hL15 : ∀ (m : bp_M), bc_BP_heldState_L15 N a1 m = some (r, mr) → ∀ (ls : Array Slot) (H : Heap) (locs : List Loc), lv_has ls 3 [] → va_P E.1 bp_cl (bc_W E m) H → va_D A (bc_W E m) → va_S A s.heap H locs → W p l e ({ frames := 0, cells := 0, slots := 0, locals := 0 }) s mt args below meth c H locs 0 0 Q (F0 mt 15 ls []) := by
    intro m h ls H locs hl hP hD hS
    rw [bc_BP_heldState_L15] at h
    refine lv_iconst (v := (-1)) hx hb (dt_bc_BP_heldState 7 rfl) (by decide) ?_
    exact hret _ _ _ _ _ _ h hP hD hS (dt_bc_BP_heldState 8 rfl)
  suffices hgo : ∀ (H : Heap) (locs : List Loc), va_P E.1 bp_cl (bc_W E m) H → va_D A (bc_W E m) → va_S A s.heap H locs → W p l e ({ frames := 0, cells := 0, slots := 0, locals := 0 }) s mt args below meth c H locs 0 0 Q (F0 mt 0 ls []) from hgo _ _ hP hD hS
  clear hP hD hS
  intro H locs hP hD hS
  unfold bc_BP_heldState at h
  refine lv_iload_n hx hb (dt_bc_BP_heldState 0 rfl) rfl (lv_at hl 1 rfl) ?_
  refine lv_if_lt (tgt := 15) hx hb (dt_bc_BP_heldState 1 rfl) (by decide) (fun hc => ?_) (fun hc => ?_)
  · replace h := (if_pos hc).symm.trans h
    exact hL15 _ h ls H locs (lv_sub hl [] rfl) hP hD hS
  · replace h := (if_neg hc).symm.trans h
    refine lv_iload_n hx hb (dt_bc_BP_heldState 2 rfl) rfl (lv_at hl 1 rfl) ?_
    refine lv_aload_n hx hb (dt_bc_BP_heldState 3 rfl) rfl (lv_at hl 0 rfl) ?_
    refine va_get (D := E.1) (ci := 0) (v := .ref (E.2.1 4)) (C := "BlockPictures") (T := bF_BP) (N := 7) hx hb htb bc_in_BP hown hK hP 0 (bc_gBP E m) rfl 3 (by decide) (htb _ tw_362) (fun _ h9 => h9) rfl (dt_bc_BP_heldState 4 rfl) ?_
    refine va_get (D := E.1) (ci := 4) (v := .int (m.1 4 1)) (C := "BlockPictures$PictureBuffer") (T := bF_PB) (N := 6) hx hb htb bc_in_PB hown hK hP 4 (bc_gPB E m) rfl 1 (by decide) (htb _ tw_310) (fun _ h9 => h9) rfl (dt_bc_BP_heldState 5 rfl) ?_
    refine lv_icmp_lt (tgt := 17) hx hb (dt_bc_BP_heldState 6 rfl) (by decide) (fun hc => ?_) (fun hc => ?_)
    · replace h := (if_pos hc).symm.trans h
      refine lv_aload_n hx hb (dt_bc_BP_heldState 9 rfl) rfl (lv_at hl 0 rfl) ?_
      refine va_get (D := E.1) (ci := 0) (v := .ref (E.2.1 4)) (C := "BlockPictures") (T := bF_BP) (N := 7) hx hb htb bc_in_BP hown hK hP 0 (bc_gBP E m) rfl 3 (by decide) (htb _ tw_362) (fun _ h9 => h9) rfl (dt_bc_BP_heldState 10 rfl) ?_
      refine va_get (D := E.1) (ci := 4) (v := .ref (E.2.1 40)) (C := "BlockPictures$PictureBuffer") (T := bF_PB) (N := 6) hx hb htb bc_in_PB hown hK hP 4 (bc_gPB E m) rfl 0 (by decide) (htb _ tw_308) (fun _ h9 => h9) rfl (dt_bc_BP_heldState 11 rfl) ?_
      refine lv_iload_n hx hb (dt_bc_BP_heldState 12 rfl) rfl (lv_at hl 1 rfl) ?_
      obtain ⟨hg1, h⟩ := bp_gi_s h
      refine bc_lP E hx hb hK hP (bc_ga40 E) hg1 (dt_bc_BP_heldState 13 rfl) (fun q2 eq2 => ?_)
      replace h := bp_nN_s h eq2
      obtain ⟨hg3, h⟩ := bp_g_s h
      refine lv_astore_n hx hb (dt_bc_BP_heldState 14 rfl) rfl hl (Nat.le_of_ble_eq_true rfl) rfl (fun ls hl => ?_)
      have hl : lv_has ls 3 [(2, .ref (E.2.1 q2)), (0, .ref (E.2.1 0)), (1, .int a1)] := hl
      refine lv_aload_n hx hb (dt_bc_BP_heldState 15 rfl) rfl (lv_at hl 0 rfl) ?_
      refine va_get (D := E.1) (ci := 9) (v := .int (m.1 q2 1)) (C := "BlockPictures$Picture") (T := bF_PI) (N := 4) hx hb htb bc_in_PI hown hK hP q2 (bc_gPI E m hg3) rfl 1 (by decide) (htb _ tw_191) (fun _ h9 => h9) rfl (dt_bc_BP_heldState 16 rfl) ?_
      refine lv_iconst (v := 4) hx hb (dt_bc_BP_heldState 17 rfl) (by decide) ?_
      refine lv_imul hx hb (dt_bc_BP_heldState 18 rfl) ?_
      refine lv_aload_n hx hb (dt_bc_BP_heldState 19 rfl) rfl (lv_at hl 0 rfl) ?_
      refine va_get (D := E.1) (ci := 9) (v := .int (m.1 q2 2)) (C := "BlockPictures$Picture") (T := bF_PI) (N := 4) hx hb htb bc_in_PI hown hK hP q2 (bc_gPI E m hg3) rfl 2 (by decide) (htb _ tw_195) (fun _ h9 => h9) rfl (dt_bc_BP_heldState 20 rfl) ?_
      refine lv_if_eq (tgt := 44) hx hb (dt_bc_BP_heldState 21 rfl) (by decide) (fun hc => ?_) (fun hc => ?_)
      · replace h := (if_pos hc).symm.trans h
        refine lv_iconst (v := 0) hx hb (dt_bc_BP_heldState 24 rfl) (by decide) ?_
        exact hL45 _ _ _ _ h hg3 ls H locs (lv_sub hl [0] rfl) hP hD hS
      · replace h := (if_neg hc).symm.trans h
        refine lv_iconst (v := 1) hx hb (dt_bc_BP_heldState 22 rfl) (by decide) ?_
        refine lv_goto (tgt := 45) hx hb (dt_bc_BP_heldState 23 rfl) (by decide) ?_
        exact hL45 _ _ _ _ h hg3 ls H locs (lv_sub hl [0] rfl) hP hD hS
    · replace h := (if_neg hc).symm.trans h
      exact hL15 _ h ls H locs (lv_sub hl [] rfl) hP hD hS

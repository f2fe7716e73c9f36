set_option maxHeartbeats 4000000 in
set_option maxRecDepth 100000 in
theorem wbc_PB_showAll (l : Launch) (E : bc_E) (N : Nat)  (m : bp_M) (sz : Nat) (mr : bp_M)  (h : bc_PB_showAll N m = some mr) : Met l y_bc_PB_showAll (Cond.code y_bc_PB_showAll prog_8_method_5_code 2 none :: bp_tb) ({ frames := 3, cells := 0, slots := 0, locals := 82 }) (bc_Pc E m sz [.ref (E.2.1 4)]) (bc_Qv E m sz mr) 0 0 (va_A (bc_W E m) sz) := by
  refine Met.ofW (cc := prog_8_method_5_code) (maxL := 2) (ret := none) (by decide) rfl ?_
  intro p e s mt args below meth c s₁ B hml hv
  obtain ⟨rfl, hsz, hP, hK, hD0, hst⟩ := hv
  have hx := B.exec
  have hb := B.bytes
  have hr := B.returns
  have htb : ∀ w ∈ bp_tb, w.before _ s = true := fun w hw => atoms_spec (ws := Cond.code y_bc_PB_showAll prog_8_method_5_code 2 none :: bp_tb) B.pre w (List.mem_cons_of_mem _ hw)
  have hown : s.vm.findClass "BlockPictures$PictureBuffer" = some mt.cls := findClass_of_methodNamed B.named
  have hlocks := B.notSynchronized
  subst hsz
  have hD := hD0.self (sz := s.heap.size)
  generalize hAe : va_A (bc_W E m) s.heap.size = A at hD hst ⊢
  have hsub : ∀ (u : bp_M) (z q : Nat), s.heap.size ≤ z → va_A (bc_W E u) z q → A q := bc_sub hAe
  have hS : va_S A s.heap s.heap [] := va_S.rf
  have hl := lv_entry ([.ref (E.2.1 4)]) (n := 2) (Nat.le_of_ble_eq_true rfl)
  rw [lg_entry_eq]
  generalize (lg_sl ([.ref (E.2.1 4)]) ++ List.replicate (2 - (lg_sl ([.ref (E.2.1 4)])).length) Slot.unset).toArray = ls at hl ⊢
  have hl : lv_has ls 2 [(0, .ref (E.2.1 4))] := hl
  refine bc_keyV (R := ({ frames := 3, cells := 0, slots := 0, locals := 82 })) E hx hb hr hlocks hK hAe (fun Q hret => ?_)
  clear B hD0 hlocks hr
  generalize ([.ref (E.2.1 4)] : List Value).toArray = args at htb hret ⊢
  clear hAe
  have hL17 : ∀ (m : bp_M), bc_PB_showAll_L17 N m = some mr → ∀ (ls : Array Slot) (H : Heap) (locs : List Loc), lv_has ls 2 [(0, .ref (E.2.1 4))] → va_P E.1 bp_cl (bc_W E m) H → va_D A (bc_W E m) → va_S A s.heap H locs → W p l e ({ frames := 3, cells := 0, slots := 0, locals := 82 }) s mt args below meth c H locs 0 0 Q (F0 mt 17 ls []) := by
    intro m h ls H locs hl hP hD hS
    rw [bc_PB_showAll_L17] at h
    refine lv_aload_n hx hb (dt_bc_PB_showAll 9 rfl) rfl (lv_at hl 0 rfl) ?_
    refine lv_iconst (v := 0) hx hb (dt_bc_PB_showAll 10 rfl) (by decide) ?_
    refine bc_pPB_1 E hx hb htb hown hK hP hD hS (htb _ tw_309) (dt_bc_PB_showAll 11 rfl) (fun m1 em1 H locs hP hD hS => ?_)
    replace h := bp_nM_s h em1
    exact hret _ _ _ _ _ h hP hD hS (dt_bc_PB_showAll 12 rfl)
  have hL2 : ∀ (n2 : Nat) (x1 : Int32) (m : bp_M), bc_PB_showAll_L2 N n2 x1 m = some mr → ∀ (ls : Array Slot) (H : Heap) (locs : List Loc), lv_has ls 2 [(0, .ref (E.2.1 4)), (1, .int x1)] → va_P E.1 bp_cl (bc_W E m) H → va_D A (bc_W E m) → va_S A s.heap H locs → W p l e ({ frames := 3, cells := 0, slots := 0, locals := 82 }) s mt args below meth c H locs 0 0 Q (F0 mt 2 ls []) := by
    intro n2
    induction n2 with
    | zero =>
      intro x1 m h ls H locs hl hP hD hS
      rw [bc_PB_showAll_L2] at h
      cases h
    | succ n2 ih2 =>
      intro x1 m h ls H locs hl hP hD hS
      rw [bc_PB_showAll_L2] at h
      refine lv_iload_n hx hb (dt_bc_PB_showAll 2 rfl) rfl (lv_at hl 1 rfl) ?_
      refine lv_iconst (v := 4) hx hb (dt_bc_PB_showAll 3 rfl) (by decide) ?_
      refine lv_icmp_ge (tgt := 17) hx hb (dt_bc_PB_showAll 4 rfl) (by decide) (fun hc => ?_) (fun hc => ?_)
      · replace h := (if_pos hc).symm.trans h
        exact hL17 _ h ls H locs (lv_sub hl [0] rfl) hP hD hS
      · replace h := (if_neg hc).symm.trans h
        refine lv_aload_n hx hb (dt_bc_PB_showAll 5 rfl) rfl (lv_at hl 0 rfl) ?_
        obtain ⟨m1, hm1, h⟩ := bp_cV_s h
        refine bc_callV E hsub hS (va_runV (As := []) (rest := []) ⟨hx, hb, hml, hown, htb⟩ (wbc_PB_showLeast l E N  m H.size m1 hm1) (cwV 0 htb (bp_goodV tw_598 tw_600 tw_21 tw_77 tw_601) rfl rfl rfl ⟨rfl, hd_bc_PB_showLeast⟩ ⟨Nat.le_of_ble_eq_true rfl, Nat.le_of_ble_eq_true rfl⟩) (bc_preV E hsub hst hK hP hD hS (bc_gPB E m) rfl rfl _) rfl rfl hl.1 rfl (lv_room (Nat.le_of_ble_eq_true rfl)) (dt_bc_PB_showAll 6 rfl) ⟨Nat.zero_le _, Nat.zero_le _⟩) (fun H locs hP hD hS => ?_)
        obtain ⟨y2, ey2⟩ : ∃ z : Int32, z = x1 + 1 := ⟨_, rfl⟩
        replace h := bp_nI_s h ey2
        refine lv_iinc (k := 1) (v := y2) hx hb (dt_bc_PB_showAll 7 rfl) hl rfl (by rw [ey2]; rfl) (Nat.le_of_ble_eq_true rfl) rfl (fun ls hl => ?_)
        have hl : lv_has ls 2 [(1, .int y2), (0, .ref (E.2.1 4))] := hl
        refine lv_goto (tgt := 2) hx hb (dt_bc_PB_showAll 8 rfl) (by decide) ?_
        exact ih2 _ _ h ls H locs (lv_sub hl [1, 0] rfl) hP hD hS
  suffices hgo : ∀ (H : Heap) (locs : List Loc), va_P E.1 bp_cl (bc_W E m) H → va_D A (bc_W E m) → va_S A s.heap H locs → W p l e ({ frames := 3, cells := 0, slots := 0, locals := 82 }) s mt args below meth c H locs 0 0 Q (F0 mt 0 ls []) from hgo _ _ hP hD hS
  clear hP hD hS
  intro H locs hP hD hS
  unfold bc_PB_showAll at h
  refine lv_iconst (v := 0) hx hb (dt_bc_PB_showAll 0 rfl) (by decide) ?_
  refine lv_istore_n hx hb (dt_bc_PB_showAll 1 rfl) rfl hl (Nat.le_of_ble_eq_true rfl) rfl (fun ls hl => ?_)
  have hl : lv_has ls 2 [(1, .int 0), (0, .ref (E.2.1 4))] := hl
  exact hL2 _ _ _ h ls H locs (lv_sub hl [1, 0] rfl) hP hD hS
set_option maxHeartbeats 4000000 in
set_option maxRecDepth 100000 in
theorem wbc_PB_release (l : Launch) (E : bc_E) (N : Nat) (a1 : Int32) (m : bp_M) (sz : Nat) (mr : bp_M)  (h : bc_PB_release N a1 m = some mr) : Met l y_bc_PB_release (Cond.code y_bc_PB_release prog_8_method_6_code 4 none :: bp_tb) ({ frames := 0, cells := 0, slots := 0, locals := 0 }) (bc_Pc E m sz [.ref (E.2.1 4), .int a1]) (bc_Qv E m sz mr) 0 0 (va_A (bc_W E m) sz) := by
  refine Met.ofW (cc := prog_8_method_6_code) (maxL := 4) (ret := none) (by decide) rfl ?_
  intro p e s mt args below meth c s₁ B hml hv
  obtain ⟨rfl, hsz, hP, hK, hD0, hst⟩ := hv
  have hx := B.exec
  have hb := B.bytes
  have hr := B.returns
  have htb : ∀ w ∈ bp_tb, w.before _ s = true := fun w hw => atoms_spec (ws := Cond.code y_bc_PB_release prog_8_method_6_code 4 none :: bp_tb) B.pre w (List.mem_cons_of_mem _ hw)
  have hown : s.vm.findClass "BlockPictures$PictureBuffer" = some mt.cls := findClass_of_methodNamed B.named
  have hlocks := B.notSynchronized
  subst hsz
  have hD := hD0.self (sz := s.heap.size)
  generalize hAe : va_A (bc_W E m) s.heap.size = A at hD hst ⊢
  have hsub : ∀ (u : bp_M) (z q : Nat), s.heap.size ≤ z → va_A (bc_W E u) z q → A q := bc_sub hAe
  have hS : va_S A s.heap s.heap [] := va_S.rf
  have hl := lv_entry ([.ref (E.2.1 4), .int a1]) (n := 4) (Nat.le_of_ble_eq_true rfl)
  rw [lg_entry_eq]
  generalize (lg_sl ([.ref (E.2.1 4), .int a1]) ++ List.replicate (4 - (lg_sl ([.ref (E.2.1 4), .int a1])).length) Slot.unset).toArray = ls at hl ⊢
  have hl : lv_has ls 4 [(0, .ref (E.2.1 4)), (1, .int a1)] := hl
  refine bc_keyV (R := ({ frames := 0, cells := 0, slots := 0, locals := 0 })) E hx hb hr hlocks hK hAe (fun Q hret => ?_)
  clear B hD0 hlocks hr
  generalize ([.ref (E.2.1 4), .int a1] : List Value).toArray = args at htb hret ⊢
  clear hAe
  have hL53 : ∀ (m : bp_M), bc_PB_release_L53 N a1 m = some mr → ∀ (ls : Array Slot) (H : Heap) (locs : List Loc), lv_has ls 4 [] → va_P E.1 bp_cl (bc_W E m) H → va_D A (bc_W E m) → va_S A s.heap H locs → W p l e ({ frames := 0, cells := 0, slots := 0, locals := 0 }) s mt args below meth c H locs 0 0 Q (F0 mt 53 ls []) := by
    intro m h ls H locs hl hP hD hS
    rw [bc_PB_release_L53] at h
    exact hret _ _ _ _ _ h hP hD hS (dt_bc_PB_release 29 rfl)
  have hL9 : ∀ (n9 : Nat) (x2 : Int32) (x3 : Int32) (m : bp_M), bc_PB_release_L9 N a1 n9 x2 x3 m = some mr → ∀ (ls : Array Slot) (H : Heap) (locs : List Loc), lv_has ls 4 [(0, .ref (E.2.1 4)), (1, .int a1), (2, .int x2), (3, .int x3)] → va_P E.1 bp_cl (bc_W E m) H → va_D A (bc_W E m) → va_S A s.heap H locs → W p l e ({ frames := 0, cells := 0, slots := 0, locals := 0 }) s mt args below meth c H locs 0 0 Q (F0 mt 9 ls []) := by
    intro n9
    induction n9 with
    | zero =>
      intro x2 x3 m h ls H locs hl hP hD hS
      rw [bc_PB_release_L9] at h
      cases h
    | succ n9 ih9 =>
      have hL47 : ∀ (x2 : Int32) (x3 : Int32) (m : bp_M), bc_PB_release_L47 (bc_PB_release_L9 N a1 n9) N a1 x2 x3 m = some mr → ∀ (ls : Array Slot) (H : Heap) (locs : List Loc), lv_has ls 4 [(0, .ref (E.2.1 4)), (1, .int a1), (2, .int x2), (3, .int x3)] → va_P E.1 bp_cl (bc_W E m) H → va_D A (bc_W E m) → va_S A s.heap H locs → W p l e ({ frames := 0, cells := 0, slots := 0, locals := 0 }) s mt args below meth c H locs 0 0 Q (F0 mt 47 ls []) := by
        intro x2 x3 m h ls H locs hl hP hD hS
        rw [bc_PB_release_L47] at h
        obtain ⟨y1, ey1⟩ : ∃ z : Int32, z = x3 + (-1) := ⟨_, rfl⟩
        replace h := bp_nI_s h ey1
        refine lv_iinc (k := 3) (v := y1) hx hb (dt_bc_PB_release 27 rfl) hl rfl (by rw [ey1]; rfl) (Nat.le_of_ble_eq_true rfl) rfl (fun ls hl => ?_)
        have hl : lv_has ls 4 [(3, .int y1), (0, .ref (E.2.1 4)), (1, .int a1), (2, .int x2)] := hl
        refine lv_goto (tgt := 9) hx hb (dt_bc_PB_release 28 rfl) (by decide) ?_
        exact ih9 _ _ _ h ls H locs (lv_sub hl [1, 2, 3, 0] rfl) hP hD hS
      have hL41 : ∀ (x2 : Int32) (x3 : Int32) (s0 : Int32) (sq1 : Nat) (m : bp_M), bc_PB_release_L41 (bc_PB_release_L9 N a1 n9) N a1 x2 x3 s0 sq1 m = some mr → isPI sq1 → ∀ (ls : Array Slot) (H : Heap) (locs : List Loc), lv_has ls 4 [(0, .ref (E.2.1 4)), (1, .int a1), (2, .int x2), (3, .int x3)] → va_P E.1 bp_cl (bc_W E m) H → va_D A (bc_W E m) → va_S A s.heap H locs → W p l e ({ frames := 0, cells := 0, slots := 0, locals := 0 }) s mt args below meth c H locs 0 0 Q (F0 mt 41 ls [.int s0, .ref (E.2.1 sq1)]) := by
        intro x2 x3 s0 sq1 m h hp_sq1 ls H locs hl hP hD hS
        rw [bc_PB_release_L41] at h
        obtain ⟨hg2, h⟩ := bp_g_s h
        refine bc_pPI_2 E hx hb htb hown hK hP hD hS hp_sq1 hg2 (htb _ tw_194) (dt_bc_PB_release 25 rfl) (fun m1 em1 H locs hP hD hS => ?_)
        replace h := bp_nM_s h em1
        obtain ⟨y3, ey3⟩ : ∃ z : Int32, z = x2 + 1 := ⟨_, rfl⟩
        replace h := bp_nI_s h ey3
        refine lv_iinc (k := 2) (v := y3) hx hb (dt_bc_PB_release 26 rfl) hl rfl (by rw [ey3]; rfl) (Nat.le_of_ble_eq_true rfl) rfl (fun ls hl => ?_)
        have hl : lv_has ls 4 [(2, .int y3), (0, .ref (E.2.1 4)), (1, .int a1), (3, .int x3)] := hl
        exact hL47 _ _ _ h ls H locs (lv_sub hl [1, 2, 0, 3] rfl) hP hD hS
      intro x2 x3 m h ls H locs hl hP hD hS
      rw [bc_PB_release_L9] at h
      refine lv_iload_n hx hb (dt_bc_PB_release 7 rfl) rfl (lv_at hl 3 rfl) ?_
      refine lv_if_lt (tgt := 53) hx hb (dt_bc_PB_release 8 rfl) (by decide) (fun hc => ?_) (fun hc => ?_)
      · replace h := (if_pos hc).symm.trans h
        exact hL53 _ h ls H locs (lv_sub hl [] rfl) hP hD hS
      · replace h := (if_neg hc).symm.trans h
        refine lv_aload_n hx hb (dt_bc_PB_release 9 rfl) rfl (lv_at hl 0 rfl) ?_
        refine va_get (D := E.1) (ci := 4) (v := .ref (E.2.1 40)) (C := "BlockPictures$PictureBuffer") (T := bF_PB) (N := 6) hx hb htb bc_in_PB hown hK hP 4 (bc_gPB E m) rfl 0 (by decide) (htb _ tw_307) (fun _ h9 => h9) rfl (dt_bc_PB_release 10 rfl) ?_
        refine lv_iload_n hx hb (dt_bc_PB_release 11 rfl) rfl (lv_at hl 3 rfl) ?_
        obtain ⟨hg1, h⟩ := bp_gi_s h
        refine bc_lP E hx hb hK hP (bc_ga40 E) hg1 (dt_bc_PB_release 12 rfl) (fun q2 eq2 => ?_)
        replace h := bp_nN_s h eq2
        obtain ⟨hg3, h⟩ := bp_g_s h
        refine va_get (D := E.1) (ci := 9) (v := .int (m.1 q2 2)) (C := "BlockPictures$Picture") (T := bF_PI) (N := 4) hx hb htb bc_in_PI hown hK hP q2 (bc_gPI E m hg3) rfl 2 (by decide) (htb _ tw_194) (fun _ h9 => h9) rfl (dt_bc_PB_release 13 rfl) ?_
        refine lv_if_eq (tgt := 47) hx hb (dt_bc_PB_release 14 rfl) (by decide) (fun hc => ?_) (fun hc => ?_)
        · replace h := (if_pos hc).symm.trans h
          exact hL47 _ _ _ h ls H locs (lv_sub hl [0, 1, 2, 3] rfl) hP hD hS
        · replace h := (if_neg hc).symm.trans h
          refine lv_aload_n hx hb (dt_bc_PB_release 15 rfl) rfl (lv_at hl 0 rfl) ?_
          refine va_get (D := E.1) (ci := 4) (v := .ref (E.2.1 40)) (C := "BlockPictures$PictureBuffer") (T := bF_PB) (N := 6) hx hb htb bc_in_PB hown hK hP 4 (bc_gPB E m) rfl 0 (by decide) (htb _ tw_307) (fun _ h9 => h9) rfl (dt_bc_PB_release 16 rfl) ?_
          refine lv_iload_n hx hb (dt_bc_PB_release 17 rfl) rfl (lv_at hl 3 rfl) ?_
          obtain ⟨hg4, h⟩ := bp_gi_s h
          refine bc_lP E hx hb hK hP (bc_ga40 E) hg4 (dt_bc_PB_release 18 rfl) (fun q5 eq5 => ?_)
          replace h := bp_nN_s h eq5
          obtain ⟨hg6, h⟩ := bp_g_s h
          refine lv_iload_n hx hb (dt_bc_PB_release 19 rfl) rfl (lv_at hl 2 rfl) ?_
          refine lv_iload_n hx hb (dt_bc_PB_release 20 rfl) rfl (lv_at hl 1 rfl) ?_
          refine lv_icmp_eq (tgt := 40) hx hb (dt_bc_PB_release 21 rfl) (by decide) (fun hc => ?_) (fun hc => ?_)
          · replace h := (if_pos hc).symm.trans h
            refine lv_iconst (v := 0) hx hb (dt_bc_PB_release 24 rfl) (by decide) ?_
            exact hL41 _ _ _ _ _ h hg6 ls H locs (lv_sub hl [0, 1, 2, 3] rfl) hP hD hS
          · replace h := (if_neg hc).symm.trans h
            refine lv_iconst (v := 1) hx hb (dt_bc_PB_release 22 rfl) (by decide) ?_
            refine lv_goto (tgt := 41) hx hb (dt_bc_PB_release 23 rfl) (by decide) ?_
            exact hL41 _ _ _ _ _ h hg6 ls H locs (lv_sub hl [0, 1, 2, 3] rfl) hP hD hS
  suffices hgo : ∀ (H : Heap) (locs : List Loc), va_P E.1 bp_cl (bc_W E m) H → va_D A (bc_W E m) → va_S A s.heap H locs → W p l e ({ frames := 0, cells := 0, slots := 0, locals := 0 }) s mt args below meth c H locs 0 0 Q (F0 mt 0 ls []) from hgo _ _ hP hD hS
  clear hP hD hS
  intro H locs hP hD hS
  unfold bc_PB_release at h
  refine lv_iconst (v := 0) hx hb (dt_bc_PB_release 0 rfl) (by decide) ?_
  refine lv_istore_n hx hb (dt_bc_PB_release 1 rfl) rfl hl (Nat.le_of_ble_eq_true rfl) rfl (fun ls hl => ?_)
  have hl : lv_has ls 4 [(2, .int 0), (0, .ref (E.2.1 4)), (1, .int a1)] := hl
  refine lv_aload_n hx hb (dt_bc_PB_release 2 rfl) rfl (lv_at hl 1 rfl) ?_
  refine va_get (D := E.1) (ci := 4) (v := .int (m.1 4 1)) (C := "BlockPictures$PictureBuffer") (T := bF_PB) (N := 6) hx hb htb bc_in_PB hown hK hP 4 (bc_gPB E m) rfl 1 (by decide) (htb _ tw_309) (fun _ h9 => h9) rfl (dt_bc_PB_release 3 rfl) ?_
  refine lv_iconst (v := 1) hx hb (dt_bc_PB_release 4 rfl) (by decide) ?_
  refine lv_isub hx hb (dt_bc_PB_release 5 rfl) ?_
  refine lv_topi (fun y1 ey1 => ?_)
  replace h := bp_nI_s h ey1
  refine lv_istore_n hx hb (dt_bc_PB_release 6 rfl) rfl hl (Nat.le_of_ble_eq_true rfl) rfl (fun ls hl => ?_)
  have hl : lv_has ls 4 [(3, .int y1), (2, .int 0), (0, .ref (E.2.1 4)), (1, .int a1)] := hl
  exact hL9 _ _ _ _ h ls H locs (lv_sub hl [2, 3, 1, 0] rfl) hP hD hS
set_option maxHeartbeats 4000000 in
set_option maxRecDepth 100000 in
theorem wbc_PB_makeRoomForReference (l : Launch) (E : bc_E) (N : Nat)  (m : bp_M) (sz : Nat) (mr : bp_M)  (h : bc_PB_makeRoomForReference N m = some mr) : Met l y_bc_PB_makeRoomForReference (Cond.code y_bc_PB_makeRoomForReference prog_8_method_8_code 4 none :: bp_tb) ({ frames := 0, cells := 0, slots := 0, locals := 0 }) (bc_Pc E m sz [.ref (E.2.1 4)]) (bc_Qv E m sz mr) 0 0 (va_A (bc_W E m) sz) := by
  refine Met.ofW (cc := prog_8_method_8_code) (maxL := 4) (ret := none) (by decide) rfl ?_
  intro p e s mt args below meth c s₁ B hml hv
  obtain ⟨rfl, hsz, hP, hK, hD0, hst⟩ := hv
  have hx := B.exec
  have hb := B.bytes
  have hr := B.returns
  have htb : ∀ w ∈ bp_tb, w.before _ s = true := fun w hw => atoms_spec (ws := Cond.code y_bc_PB_makeRoomForReference prog_8_method_8_code 4 none :: bp_tb) B.pre w (List.mem_cons_of_mem _ hw)
  have hown : s.vm.findClass "BlockPictures$PictureBuffer" = some mt.cls := findClass_of_methodNamed B.named
  have hlocks := B.notSynchronized
  subst hsz
  have hD := hD0.self (sz := s.heap.size)
  generalize hAe : va_A (bc_W E m) s.heap.size = A at hD hst ⊢
  have hsub : ∀ (u : bp_M) (z q : Nat), s.heap.size ≤ z → va_A (bc_W E u) z q → A q := bc_sub hAe
  have hS : va_S A s.heap s.heap [] := va_S.rf
  have hl := lv_entry ([.ref (E.2.1 4)]) (n := 4) (Nat.le_of_ble_eq_true rfl)
  rw [lg_entry_eq]
  generalize (lg_sl ([.ref (E.2.1 4)]) ++ List.replicate (4 - (lg_sl ([.ref (E.2.1 4)])).length) Slot.unset).toArray = ls at hl ⊢
  have hl : lv_has ls 4 [(0, .ref (E.2.1 4))] := hl
  refine bc_keyV (R := ({ frames := 0, cells := 0, slots := 0, locals := 0 })) E hx hb hr hlocks hK hAe (fun Q hret => ?_)
  clear B hD0 hlocks hr
  generalize ([.ref (E.2.1 4)] : List Value).toArray = args at htb hret ⊢
  clear hAe
  have hL61 : ∀ (m : bp_M), bc_PB_makeRoomForReference_L61 N m = some mr → ∀ (ls : Array Slot) (H : Heap) (locs : List Loc), lv_has ls 4 [] → va_P E.1 bp_cl (bc_W E m) H → va_D A (bc_W E m) → va_S A s.heap H locs → W p l e ({ frames := 0, cells := 0, slots := 0, locals := 0 }) s mt args below meth c H locs 0 0 Q (F0 mt 61 ls []) := by
    intro m h ls H locs hl hP hD hS
    rw [bc_PB_makeRoomForReference_L61] at h
    exact hret _ _ _ _ _ h hP hD hS (dt_bc_PB_makeRoomForReference 35 rfl)
  have hL38 : ∀ (x1 : Int32) (x2 : Int32) (m : bp_M), bc_PB_makeRoomForReference_L38 N x1 x2 m = some mr → ∀ (ls : Array Slot) (H : Heap) (locs : List Loc), lv_has ls 4 [(0, .ref (E.2.1 4)), (1, .int x1), (2, .int x2)] → va_P E.1 bp_cl (bc_W E m) H → va_D A (bc_W E m) → va_S A s.heap H locs → W p l e ({ frames := 0, cells := 0, slots := 0, locals := 0 }) s mt args below meth c H locs 0 0 Q (F0 mt 38 ls []) := by
    intro x1 x2 m h ls H locs hl hP hD hS
    rw [bc_PB_makeRoomForReference_L38] at h
    refine lv_iload_n hx hb (dt_bc_PB_makeRoomForReference 22 rfl) rfl (lv_at hl 1 rfl) ?_
    refine lv_iconst (v := (-1)) hx hb (dt_bc_PB_makeRoomForReference 23 rfl) (by decide) ?_
    refine lv_icmp_eq (tgt := 61) hx hb (dt_bc_PB_makeRoomForReference 24 rfl) (by decide) (fun hc => ?_) (fun hc => ?_)
    · replace h := (if_pos hc).symm.trans h
      exact hL61 _ h ls H locs (lv_sub hl [] rfl) hP hD hS
    · replace h := (if_neg hc).symm.trans h
      refine lv_iload_n hx hb (dt_bc_PB_makeRoomForReference 25 rfl) rfl (lv_at hl 2 rfl) ?_
      refine lv_aload_n hx hb (dt_bc_PB_makeRoomForReference 26 rfl) rfl (lv_at hl 0 rfl) ?_
      refine va_get (D := E.1) (ci := 4) (v := .int (m.1 4 2)) (C := "BlockPictures$PictureBuffer") (T := bF_PB) (N := 6) hx hb htb bc_in_PB hown hK hP 4 (bc_gPB E m) rfl 2 (by decide) (htb _ tw_311) (fun _ h9 => h9) rfl (dt_bc_PB_makeRoomForReference 27 rfl) ?_
      refine lv_icmp_lt (tgt := 61) hx hb (dt_bc_PB_makeRoomForReference 28 rfl) (by decide) (fun hc => ?_) (fun hc => ?_)
      · replace h := (if_pos hc).symm.trans h
        exact hL61 _ h ls H locs (lv_sub hl [] rfl) hP hD hS
      · replace h := (if_neg hc).symm.trans h
        refine lv_aload_n hx hb (dt_bc_PB_makeRoomForReference 29 rfl) rfl (lv_at hl 0 rfl) ?_
        refine va_get (D := E.1) (ci := 4) (v := .ref (E.2.1 40)) (C := "BlockPictures$PictureBuffer") (T := bF_PB) (N := 6) hx hb htb bc_in_PB hown hK hP 4 (bc_gPB E m) rfl 0 (by decide) (htb _ tw_307) (fun _ h9 => h9) rfl (dt_bc_PB_makeRoomForReference 30 rfl) ?_
        refine lv_iload_n hx hb (dt_bc_PB_makeRoomForReference 31 rfl) rfl (lv_at hl 1 rfl) ?_
        obtain ⟨hg1, h⟩ := bp_gi_s h
        refine bc_lP E hx hb hK hP (bc_ga40 E) hg1 (dt_bc_PB_makeRoomForReference 32 rfl) (fun q2 eq2 => ?_)
        replace h := bp_nN_s h eq2
        obtain ⟨hg3, h⟩ := bp_g_s h
        refine lv_iconst (v := 0) hx hb (dt_bc_PB_makeRoomForReference 33 rfl) (by decide) ?_
        obtain ⟨hg5, h⟩ := bp_g_s h
        refine bc_pPI_2 E hx hb htb hown hK hP hD hS hg3 hg5 (htb _ tw_194) (dt_bc_PB_makeRoomForReference 34 rfl) (fun m4 em4 H locs hP hD hS => ?_)
        replace h := bp_nM_s h em4
        exact hL61 _ h ls H locs (lv_sub hl [] rfl) hP hD hS
  have hL11 : ∀ (n11 : Nat) (x1 : Int32) (x2 : Int32) (x3 : Int32) (m : bp_M), bc_PB_makeRoomForReference_L11 N n11 x1 x2 x3 m = some mr → ∀ (ls : Array Slot) (H : Heap) (locs : List Loc), lv_has ls 4 [(0, .ref (E.2.1 4)), (1, .int x1), (2, .int x2), (3, .int x3)] → va_P E.1 bp_cl (bc_W E m) H → va_D A (bc_W E m) → va_S A s.heap H locs → W p l e ({ frames := 0, cells := 0, slots := 0, locals := 0 }) s mt args below meth c H locs 0 0 Q (F0 mt 11 ls []) := by
    intro n11
    induction n11 with
    | zero =>
      intro x1 x2 x3 m h ls H locs hl hP hD hS
      rw [bc_PB_makeRoomForReference_L11] at h
      cases h
    | succ n11 ih11 =>
      have hL32 : ∀ (x1 : Int32) (x2 : Int32) (x3 : Int32) (m : bp_M), bc_PB_makeRoomForReference_L32 (bc_PB_makeRoomForReference_L11 N n11) N x1 x2 x3 m = some mr → ∀ (ls : Array Slot) (H : Heap) (locs : List Loc), lv_has ls 4 [(0, .ref (E.2.1 4)), (1, .int x1), (2, .int x2), (3, .int x3)] → va_P E.1 bp_cl (bc_W E m) H → va_D A (bc_W E m) → va_S A s.heap H locs → W p l e ({ frames := 0, cells := 0, slots := 0, locals := 0 }) s mt args below meth c H locs 0 0 Q (F0 mt 32 ls []) := by
        intro x1 x2 x3 m h ls H locs hl hP hD hS
        rw [bc_PB_makeRoomForReference_L32] at h
        obtain ⟨y1, ey1⟩ : ∃ z : Int32, z = x3 + (-1) := ⟨_, rfl⟩
        replace h := bp_nI_s h ey1
        refine lv_iinc (k := 3) (v := y1) hx hb (dt_bc_PB_makeRoomForReference 20 rfl) hl rfl (by rw [ey1]; rfl) (Nat.le_of_ble_eq_true rfl) rfl (fun ls hl => ?_)
        have hl : lv_has ls 4 [(3, .int y1), (0, .ref (E.2.1 4)), (1, .int x1), (2, .int x2)] := hl
        refine lv_goto (tgt := 11) hx hb (dt_bc_PB_makeRoomForReference 21 rfl) (by decide) ?_
        exact ih11 _ _ _ _ h ls H locs (lv_sub hl [1, 2, 3, 0] rfl) hP hD hS
      intro x1 x2 x3 m h ls H locs hl hP hD hS
      rw [bc_PB_makeRoomForReference_L11] at h
      refine lv_iload_n hx hb (dt_bc_PB_makeRoomForReference 9 rfl) rfl (lv_at hl 3 rfl) ?_
      refine lv_if_lt (tgt := 38) hx hb (dt_bc_PB_makeRoomForReference 10 rfl) (by decide) (fun hc => ?_) (fun hc => ?_)
      · replace h := (if_pos hc).symm.trans h
        exact hL38 _ _ _ h ls H locs (lv_sub hl [0, 1, 2] rfl) hP hD hS
      · replace h := (if_neg hc).symm.trans h
        refine lv_aload_n hx hb (dt_bc_PB_makeRoomForReference 11 rfl) rfl (lv_at hl 0 rfl) ?_
        refine va_get (D := E.1) (ci := 4) (v := .ref (E.2.1 40)) (C := "BlockPictures$PictureBuffer") (T := bF_PB) (N := 6) hx hb htb bc_in_PB hown hK hP 4 (bc_gPB E m) rfl 0 (by decide) (htb _ tw_307) (fun _ h9 => h9) rfl (dt_bc_PB_makeRoomForReference 12 rfl) ?_
        refine lv_iload_n hx hb (dt_bc_PB_makeRoomForReference 13 rfl) rfl (lv_at hl 3 rfl) ?_
        obtain ⟨hg1, h⟩ := bp_gi_s h
        refine bc_lP E hx hb hK hP (bc_ga40 E) hg1 (dt_bc_PB_makeRoomForReference 14 rfl) (fun q2 eq2 => ?_)
        replace h := bp_nN_s h eq2
        obtain ⟨hg3, h⟩ := bp_g_s h
        refine va_get (D := E.1) (ci := 9) (v := .int (m.1 q2 2)) (C := "BlockPictures$Picture") (T := bF_PI) (N := 4) hx hb htb bc_in_PI hown hK hP q2 (bc_gPI E m hg3) rfl 2 (by decide) (htb _ tw_194) (fun _ h9 => h9) rfl (dt_bc_PB_makeRoomForReference 15 rfl) ?_
        refine lv_if_eq (tgt := 32) hx hb (dt_bc_PB_makeRoomForReference 16 rfl) (by decide) (fun hc => ?_) (fun hc => ?_)
        · replace h := (if_pos hc).symm.trans h
          exact hL32 _ _ _ _ h ls H locs (lv_sub hl [0, 1, 2, 3] rfl) hP hD hS
        · replace h := (if_neg hc).symm.trans h
          refine lv_iload_n hx hb (dt_bc_PB_makeRoomForReference 17 rfl) rfl (lv_at hl 3 rfl) ?_
          refine lv_istore_n hx hb (dt_bc_PB_makeRoomForReference 18 rfl) rfl hl (Nat.le_of_ble_eq_true rfl) rfl (fun ls hl => ?_)
          have hl : lv_has ls 4 [(1, .int x3), (0, .ref (E.2.1 4)), (2, .int x2), (3, .int x3)] := hl
          obtain ⟨y4, ey4⟩ : ∃ z : Int32, z = x2 + 1 := ⟨_, rfl⟩
          replace h := bp_nI_s h ey4
          refine lv_iinc (k := 2) (v := y4) hx hb (dt_bc_PB_makeRoomForReference 19 rfl) hl rfl (by rw [ey4]; rfl) (Nat.le_of_ble_eq_true rfl) rfl (fun ls hl => ?_)
          have hl : lv_has ls 4 [(2, .int y4), (1, .int x3), (0, .ref (E.2.1 4)), (3, .int x3)] := hl
          exact hL32 _ _ _ _ h ls H locs (lv_sub hl [2, 1, 0, 3] rfl) hP hD hS
  suffices hgo : ∀ (H : Heap) (locs : List Loc), va_P E.1 bp_cl (bc_W E m) H → va_D A (bc_W E m) → va_S A s.heap H locs → W p l e ({ frames := 0, cells := 0, slots := 0, locals := 0 }) s mt args below meth c H locs 0 0 Q (F0 mt 0 ls []) from hgo _ _ hP hD hS
  clear hP hD hS
  intro H locs hP hD hS
  unfold bc_PB_makeRoomForReference at h
  refine lv_iconst (v := (-1)) hx hb (dt_bc_PB_makeRoomForReference 0 rfl) (by decide) ?_
  refine lv_istore_n hx hb (dt_bc_PB_makeRoomForReference 1 rfl) rfl hl (Nat.le_of_ble_eq_true rfl) rfl (fun ls hl => ?_)
  have hl : lv_has ls 4 [(1, .int (-1)), (0, .ref (E.2.1 4))] := hl
  refine lv_iconst (v := 0) hx hb (dt_bc_PB_makeRoomForReference 2 rfl) (by decide) ?_
  refine lv_istore_n hx hb (dt_bc_PB_makeRoomForReference 3 rfl) rfl hl (Nat.le_of_ble_eq_true rfl) rfl (fun ls hl => ?_)
  have hl : lv_has ls 4 [(2, .int 0), (1, .int (-1)), (0, .ref (E.2.1 4))] := hl
  refine lv_aload_n hx hb (dt_bc_PB_makeRoomForReference 4 rfl) rfl (lv_at hl 2 rfl) ?_
  refine va_get (D := E.1) (ci := 4) (v := .int (m.1 4 1)) (C := "BlockPictures$PictureBuffer") (T := bF_PB) (N := 6) hx hb htb bc_in_PB hown hK hP 4 (bc_gPB E m) rfl 1 (by decide) (htb _ tw_309) (fun _ h9 => h9) rfl (dt_bc_PB_makeRoomForReference 5 rfl) ?_
  refine lv_iconst (v := 1) hx hb (dt_bc_PB_makeRoomForReference 6 rfl) (by decide) ?_
  refine lv_isub hx hb (dt_bc_PB_makeRoomForReference 7 rfl) ?_
  refine lv_topi (fun y1 ey1 => ?_)
  replace h := bp_nI_s h ey1
  refine lv_istore_n hx hb (dt_bc_PB_makeRoomForReference 8 rfl) rfl hl (Nat.le_of_ble_eq_true rfl) rfl (fun ls hl => ?_)
  have hl : lv_has ls 4 [(3, .int y1), (2, .int 0), (1, .int (-1)), (0, .ref (E.2.1 4))] := hl
  exact hL11 _ _ _ _ _ h ls H locs (lv_sub hl [3, 2, 1, 0] rfl) hP hD hS
set_option maxHeartbeats 4000000 in
set_option maxRecDepth 100000 in
theorem wbc_PB_sweep (l : Launch) (E : bc_E) (N : Nat)  (m : bp_M) (sz : Nat) (mr : bp_M)  (h : bc_PB_sweep N m = some mr) : Met l y_bc_PB_sweep (Cond.code y_bc_PB_sweep prog_8_method_9_code 4 none :: bp_tb) ({ frames := 0, cells := 0, slots := 0, locals := 0 }) (bc_Pc E m sz [.ref (E.2.1 4)]) (bc_Qv E m sz mr) 0 0 (va_A (bc_W E m) sz) := by
  refine Met.ofW (cc := prog_8_method_9_code) (maxL := 4) (ret := none) (by decide) rfl ?_
  intro p e s mt args below meth c s₁ B hml hv
  obtain ⟨rfl, hsz, hP, hK, hD0, hst⟩ := hv
  have hx := B.exec
  have hb := B.bytes
  have hr := B.returns
  have htb : ∀ w ∈ bp_tb, w.before _ s = true := fun w hw => atoms_spec (ws := Cond.code y_bc_PB_sweep prog_8_method_9_code 4 none :: bp_tb) B.pre w (List.mem_cons_of_mem _ hw)
  have hown : s.vm.findClass "BlockPictures$PictureBuffer" = some mt.cls := findClass_of_methodNamed B.named
  have hlocks := B.notSynchronized
  subst hsz
  have hD := hD0.self (sz := s.heap.size)
  generalize hAe : va_A (bc_W E m) s.heap.size = A at hD hst ⊢
  have hsub : ∀ (u : bp_M) (z q : Nat), s.heap.size ≤ z → va_A (bc_W E u) z q → A q := bc_sub hAe
  have hS : va_S A s.heap s.heap [] := va_S.rf
  have hl := lv_entry ([.ref (E.2.1 4)]) (n := 4) (Nat.le_of_ble_eq_true rfl)
  rw [lg_entry_eq]
  generalize (lg_sl ([.ref (E.2.1 4)]) ++ List.replicate (4 - (lg_sl ([.ref (E.2.1 4)])).length) Slot.unset).toArray = ls at hl ⊢
  have hl : lv_has ls 4 [(0, .ref (E.2.1 4))] := hl
  refine bc_keyV (R := ({ frames := 0, cells := 0, slots := 0, locals := 0 })) E hx hb hr hlocks hK hAe (fun Q hret => ?_)
  clear B hD0 hlocks hr
  generalize ([.ref (E.2.1 4)] : List Value).toArray = args at htb hret ⊢
  clear hAe
  have hL61 : ∀ (x1 : Int32) (m : bp_M), bc_PB_sweep_L61 N x1 m = some mr → ∀ (ls : Array Slot) (H : Heap) (locs : List Loc), lv_has ls 4 [(0, .ref (E.2.1 4)), (1, .int x1)] → va_P E.1 bp_cl (bc_W E m) H → va_D A (bc_W E m) → va_S A s.heap H locs → W p l e ({ frames := 0, cells := 0, slots := 0, locals := 0 }) s mt args below meth c H locs 0 0 Q (F0 mt 61 ls []) := by
    intro x1 m h ls H locs hl hP hD hS
    rw [bc_PB_sweep_L61] at h
    refine lv_aload_n hx hb (dt_bc_PB_sweep 35 rfl) rfl (lv_at hl 0 rfl) ?_
    refine lv_iload_n hx hb (dt_bc_PB_sweep 36 rfl) rfl (lv_at hl 1 rfl) ?_
    refine bc_pPB_1 E hx hb htb hown hK hP hD hS (htb _ tw_309) (dt_bc_PB_sweep 37 rfl) (fun m1 em1 H locs hP hD hS => ?_)
    replace h := bp_nM_s h em1
    exact hret _ _ _ _ _ h hP hD hS (dt_bc_PB_sweep 38 rfl)
  have hL4 : ∀ (n4 : Nat) (x1 : Int32) (x2 : Int32) (m : bp_M), bc_PB_sweep_L4 N n4 x1 x2 m = some mr → ∀ (ls : Array Slot) (H : Heap) (locs : List Loc), lv_has ls 4 [(0, .ref (E.2.1 4)), (1, .int x1), (2, .int x2)] → va_P E.1 bp_cl (bc_W E m) H → va_D A (bc_W E m) → va_S A s.heap H locs → W p l e ({ frames := 0, cells := 0, slots := 0, locals := 0 }) s mt args below meth c H locs 0 0 Q (F0 mt 4 ls []) := by
    intro n4
    induction n4 with
    | zero =>
      intro x1 x2 m h ls H locs hl hP hD hS
      rw [bc_PB_sweep_L4] at h
      cases h
    | succ n4 ih4 =>
      have hL55 : ∀ (x1 : Int32) (x2 : Int32) (m : bp_M), bc_PB_sweep_L55 (bc_PB_sweep_L4 N n4) N x1 x2 m = some mr → ∀ (ls : Array Slot) (H : Heap) (locs : List Loc), lv_has ls 4 [(0, .ref (E.2.1 4)), (1, .int x1), (2, .int x2)] → va_P E.1 bp_cl (bc_W E m) H → va_D A (bc_W E m) → va_S A s.heap H locs → W p l e ({ frames := 0, cells := 0, slots := 0, locals := 0 }) s mt args below meth c H locs 0 0 Q (F0 mt 55 ls []) := by
        intro x1 x2 m h ls H locs hl hP hD hS
        rw [bc_PB_sweep_L55] at h
        obtain ⟨y1, ey1⟩ : ∃ z : Int32, z = x2 + 1 := ⟨_, rfl⟩
        replace h := bp_nI_s h ey1
        refine lv_iinc (k := 2) (v := y1) hx hb (dt_bc_PB_sweep 33 rfl) hl rfl (by rw [ey1]; rfl) (Nat.le_of_ble_eq_true rfl) rfl (fun ls hl => ?_)
        have hl : lv_has ls 4 [(2, .int y1), (0, .ref (E.2.1 4)), (1, .int x1)] := hl
        refine lv_goto (tgt := 4) hx hb (dt_bc_PB_sweep 34 rfl) (by decide) ?_
        exact ih4 _ _ _ h ls H locs (lv_sub hl [1, 2, 0] rfl) hP hD hS
      have hL33 : ∀ (x1 : Int32) (x2 : Int32) (ql3 : Nat) (m : bp_M), bc_PB_sweep_L33 (bc_PB_sweep_L4 N n4) N x1 x2 ql3 m = some mr → isPI ql3 → ∀ (ls : Array Slot) (H : Heap) (locs : List Loc), lv_has ls 4 [(0, .ref (E.2.1 4)), (1, .int x1), (2, .int x2), (3, .ref (E.2.1 ql3))] → va_P E.1 bp_cl (bc_W E m) H → va_D A (bc_W E m) → va_S A s.heap H locs → W p l e ({ frames := 0, cells := 0, slots := 0, locals := 0 }) s mt args below meth c H locs 0 0 Q (F0 mt 33 ls []) := by
        intro x1 x2 ql3 m h hp_ql3 ls H locs hl hP hD hS
        rw [bc_PB_sweep_L33] at h
        refine lv_aload_n hx hb (dt_bc_PB_sweep 19 rfl) rfl (lv_at hl 0 rfl) ?_
        refine va_get (D := E.1) (ci := 4) (v := .ref (E.2.1 40)) (C := "BlockPictures$PictureBuffer") (T := bF_PB) (N := 6) hx hb htb bc_in_PB hown hK hP 4 (bc_gPB E m) rfl 0 (by decide) (htb _ tw_307) (fun _ h9 => h9) rfl (dt_bc_PB_sweep 20 rfl) ?_
        refine lv_iload_n hx hb (dt_bc_PB_sweep 21 rfl) rfl (lv_at hl 2 rfl) ?_
        refine lv_aload_n hx hb (dt_bc_PB_sweep 22 rfl) rfl (lv_at hl 0 rfl) ?_
        refine va_get (D := E.1) (ci := 4) (v := .ref (E.2.1 40)) (C := "BlockPictures$PictureBuffer") (T := bF_PB) (N := 6) hx hb htb bc_in_PB hown hK hP 4 (bc_gPB E m) rfl 0 (by decide) (htb _ tw_307) (fun _ h9 => h9) rfl (dt_bc_PB_sweep 23 rfl) ?_
        refine lv_iload_n hx hb (dt_bc_PB_sweep 24 rfl) rfl (lv_at hl 1 rfl) ?_
        obtain ⟨hg1, h⟩ := bp_gi_s h
        refine bc_lP E hx hb hK hP (bc_ga40 E) hg1 (dt_bc_PB_sweep 25 rfl) (fun q2 eq2 => ?_)
        replace h := bp_nN_s h eq2
        obtain ⟨hg3, h⟩ := bp_g_s h
        obtain ⟨hg4, h⟩ := bp_gi_s h
        refine bc_sP E hx hb hK hP hD hS (bc_ga40 E) hg3 hg4 (dt_bc_PB_sweep 26 rfl) (fun m5 em5 H locs hP hD hS => ?_)
        replace h := bp_nM_s h em5
        refine lv_aload_n hx hb (dt_bc_PB_sweep 27 rfl) rfl (lv_at hl 0 rfl) ?_
        refine va_get (D := E.1) (ci := 4) (v := .ref (E.2.1 40)) (C := "BlockPictures$PictureBuffer") (T := bF_PB) (N := 6) hx hb htb bc_in_PB hown hK hP 4 (bc_gPB E m5) rfl 0 (by decide) (htb _ tw_307) (fun _ h9 => h9) rfl (dt_bc_PB_sweep 28 rfl) ?_
        refine lv_iload_n hx hb (dt_bc_PB_sweep 29 rfl) rfl (lv_at hl 1 rfl) ?_
        refine lv_aload_n hx hb (dt_bc_PB_sweep 30 rfl) rfl (lv_at hl 3 rfl) ?_
        obtain ⟨hg6, h⟩ := bp_gi_s h
        refine bc_sP E hx hb hK hP hD hS (bc_ga40 E) hp_ql3 hg6 (dt_bc_PB_sweep 31 rfl) (fun m7 em7 H locs hP hD hS => ?_)
        replace h := bp_nM_s h em7
        obtain ⟨y8, ey8⟩ : ∃ z : Int32, z = x1 + 1 := ⟨_, rfl⟩
        replace h := bp_nI_s h ey8
        refine lv_iinc (k := 1) (v := y8) hx hb (dt_bc_PB_sweep 32 rfl) hl rfl (by rw [ey8]; rfl) (Nat.le_of_ble_eq_true rfl) rfl (fun ls hl => ?_)
        have hl : lv_has ls 4 [(1, .int y8), (0, .ref (E.2.1 4)), (2, .int x2), (3, .ref (E.2.1 ql3))] := hl
        exact hL55 _ _ _ h ls H locs (lv_sub hl [1, 0, 2] rfl) hP hD hS
      intro x1 x2 m h ls H locs hl hP hD hS
      rw [bc_PB_sweep_L4] at h
      refine lv_iload_n hx hb (dt_bc_PB_sweep 4 rfl) rfl (lv_at hl 2 rfl) ?_
      refine lv_aload_n hx hb (dt_bc_PB_sweep 5 rfl) rfl (lv_at hl 0 rfl) ?_
      refine va_get (D := E.1) (ci := 4) (v := .int (m.1 4 1)) (C := "BlockPictures$PictureBuffer") (T := bF_PB) (N := 6) hx hb htb bc_in_PB hown hK hP 4 (bc_gPB E m) rfl 1 (by decide) (htb _ tw_309) (fun _ h9 => h9) rfl (dt_bc_PB_sweep 6 rfl) ?_
      refine lv_icmp_ge (tgt := 61) hx hb (dt_bc_PB_sweep 7 rfl) (by decide) (fun hc => ?_) (fun hc => ?_)
      · replace h := (if_pos hc).symm.trans h
        exact hL61 _ _ h ls H locs (lv_sub hl [0, 1] rfl) hP hD hS
      · replace h := (if_neg hc).symm.trans h
        refine lv_aload_n hx hb (dt_bc_PB_sweep 8 rfl) rfl (lv_at hl 0 rfl) ?_
        refine va_get (D := E.1) (ci := 4) (v := .ref (E.2.1 40)) (C := "BlockPictures$PictureBuffer") (T := bF_PB) (N := 6) hx hb htb bc_in_PB hown hK hP 4 (bc_gPB E m) rfl 0 (by decide) (htb _ tw_307) (fun _ h9 => h9) rfl (dt_bc_PB_sweep 9 rfl) ?_
        refine lv_iload_n hx hb (dt_bc_PB_sweep 10 rfl) rfl (lv_at hl 2 rfl) ?_
        obtain ⟨hg1, h⟩ := bp_gi_s h
        refine bc_lP E hx hb hK hP (bc_ga40 E) hg1 (dt_bc_PB_sweep 11 rfl) (fun q2 eq2 => ?_)
        replace h := bp_nN_s h eq2
        obtain ⟨hg3, h⟩ := bp_g_s h
        refine lv_astore_n hx hb (dt_bc_PB_sweep 12 rfl) rfl hl (Nat.le_of_ble_eq_true rfl) rfl (fun ls hl => ?_)
        have hl : lv_has ls 4 [(3, .ref (E.2.1 q2)), (0, .ref (E.2.1 4)), (1, .int x1), (2, .int x2)] := hl
        refine lv_aload_n hx hb (dt_bc_PB_sweep 13 rfl) rfl (lv_at hl 0 rfl) ?_
        refine va_get (D := E.1) (ci := 9) (v := .int (m.1 q2 2)) (C := "BlockPictures$Picture") (T := bF_PI) (N := 4) hx hb htb bc_in_PI hown hK hP q2 (bc_gPI E m hg3) rfl 2 (by decide) (htb _ tw_194) (fun _ h9 => h9) rfl (dt_bc_PB_sweep 14 rfl) ?_
        refine lv_if_ne (tgt := 33) hx hb (dt_bc_PB_sweep 15 rfl) (by decide) (fun hc => ?_) (fun hc => ?_)
        · replace h := (if_pos hc).symm.trans h
          exact hL33 _ _ _ _ h hg3 ls H locs (lv_sub hl [1, 2, 3, 0] rfl) hP hD hS
        · replace h := (if_neg (fun hn => hn hc)).symm.trans h
          refine lv_aload_n hx hb (dt_bc_PB_sweep 16 rfl) rfl (lv_at hl 0 rfl) ?_
          refine va_get (D := E.1) (ci := 9) (v := .int (m.1 q2 3)) (C := "BlockPictures$Picture") (T := bF_PI) (N := 4) hx hb htb bc_in_PI hown hK hP q2 (bc_gPI E m hg3) rfl 3 (by decide) (htb _ tw_198) (fun _ h9 => h9) rfl (dt_bc_PB_sweep 17 rfl) ?_
          refine lv_if_eq (tgt := 55) hx hb (dt_bc_PB_sweep 18 rfl) (by decide) (fun hc => ?_) (fun hc => ?_)
          · replace h := (if_pos hc).symm.trans h
            exact hL55 _ _ _ h ls H locs (lv_sub hl [1, 2, 3] rfl) hP hD hS
          · replace h := (if_neg hc).symm.trans h
            exact hL33 _ _ _ _ h hg3 ls H locs (lv_sub hl [1, 2, 3, 0] rfl) hP hD hS
  suffices hgo : ∀ (H : Heap) (locs : List Loc), va_P E.1 bp_cl (bc_W E m) H → va_D A (bc_W E m) → va_S A s.heap H locs → W p l e ({ frames := 0, cells := 0, slots := 0, locals := 0 }) s mt args below meth c H locs 0 0 Q (F0 mt 0 ls []) from hgo _ _ hP hD hS
  clear hP hD hS
  intro H locs hP hD hS
  unfold bc_PB_sweep at h
  refine lv_iconst (v := 0) hx hb (dt_bc_PB_sweep 0 rfl) (by decide) ?_
  refine lv_istore_n hx hb (dt_bc_PB_sweep 1 rfl) rfl hl (Nat.le_of_ble_eq_true rfl) rfl (fun ls hl => ?_)
  have hl : lv_has ls 4 [(1, .int 0), (0, .ref (E.2.1 4))] := hl
  refine lv_iconst (v := 0) hx hb (dt_bc_PB_sweep 2 rfl) (by decide) ?_
  refine lv_istore_n hx hb (dt_bc_PB_sweep 3 rfl) rfl hl (Nat.le_of_ble_eq_true rfl) rfl (fun ls hl => ?_)
  have hl : lv_has ls 4 [(2, .int 0), (1, .int 0), (0, .ref (E.2.1 4))] := hl
  exact hL4 _ _ _ _ h ls H locs (lv_sub hl [2, 1, 0] rfl) hP hD hS
set_option maxHeartbeats 4000000 in
set_option maxRecDepth 100000 in
theorem wbc_PI_copy (l : Launch) (E : bc_E) (N : Nat) (o0 : Nat) (a1 : Nat) (m : bp_M) (sz : Nat) (mr : bp_M) (hp_o0 : isPI o0) (hp_a1 : isPI a1) (h : bc_PI_copy N o0 a1 m = some mr) : Met l y_bc_PI_copy (Cond.code y_bc_PI_copy prog_7_method_2_code 2 none :: bp_tb) ({ frames := 1, cells := 0, slots := 0, locals := 40 }) (bc_Pc E m sz [.ref (E.2.1 o0), .ref (E.2.1 a1)]) (bc_Qv E m sz mr) 0 0 (va_A (bc_W E m) sz) := by
  refine Met.ofW (cc := prog_7_method_2_code) (maxL := 2) (ret := none) (by decide) rfl ?_
  intro p e s mt args below meth c s₁ B hml hv
  obtain ⟨rfl, hsz, hP, hK, hD0, hst⟩ := hv
  have hx := B.exec
  have hb := B.bytes
  have hr := B.returns
  have htb : ∀ w ∈ bp_tb, w.before _ s = true := fun w hw => atoms_spec (ws := Cond.code y_bc_PI_copy prog_7_method_2_code 2 none :: bp_tb) B.pre w (List.mem_cons_of_mem _ hw)
  have hown : s.vm.findClass "BlockPictures$Picture" = some mt.cls := findClass_of_methodNamed B.named
  have hlocks := B.notSynchronized
  subst hsz
  have hD := hD0.self (sz := s.heap.size)
  generalize hAe : va_A (bc_W E m) s.heap.size = A at hD hst ⊢
  have hsub : ∀ (u : bp_M) (z q : Nat), s.heap.size ≤ z → va_A (bc_W E u) z q → A q := bc_sub hAe
  have hS : va_S A s.heap s.heap [] := va_S.rf
  have hl := lv_entry ([.ref (E.2.1 o0), .ref (E.2.1 a1)]) (n := 2) (Nat.le_of_ble_eq_true rfl)
  rw [lg_entry_eq]
  generalize (lg_sl ([.ref (E.2.1 o0), .ref (E.2.1 a1)]) ++ List.replicate (2 - (lg_sl ([.ref (E.2.1 o0), .ref (E.2.1 a1)])).length) Slot.unset).toArray = ls at hl ⊢
  have hl : lv_has ls 2 [(0, .ref (E.2.1 o0)), (1, .ref (E.2.1 a1))] := hl
  refine bc_keyV (R := ({ frames := 1, cells := 0, slots := 0, locals := 40 })) E hx hb hr hlocks hK hAe (fun Q hret => ?_)
  clear B hD0 hlocks hr
  generalize ([.ref (E.2.1 o0), .ref (E.2.1 a1)] : List Value).toArray = args at htb hret ⊢
  clear hAe
  suffices hgo : ∀ (H : Heap) (locs : List Loc), va_P E.1 bp_cl (bc_W E m) H → va_D A (bc_W E m) → va_S A s.heap H locs → W p l e ({ frames := 1, cells := 0, slots := 0, locals := 40 }) s mt args below meth c H locs 0 0 Q (F0 mt 0 ls []) from hgo _ _ hP hD hS
  clear hP hD hS
  intro H locs hP hD hS
  unfold bc_PI_copy at h
  refine lv_aload_n hx hb (dt_bc_PI_copy 0 rfl) rfl (lv_at hl 1 rfl) ?_
  refine va_get (D := E.1) (ci := 9) (v := .ref (E.2.1 (a1 + 24))) (C := "BlockPictures$Picture") (T := bF_PI) (N := 4) hx hb htb bc_in_PI hown hK hP a1 (bc_gPI E m hp_a1) rfl 0 (by decide) (htb _ tw_183) (fun _ h9 => h9) rfl (dt_bc_PI_copy 1 rfl) ?_
  refine lv_iconst (v := 0) hx hb (dt_bc_PI_copy 2 rfl) (by decide) ?_
  refine lv_aload_n hx hb (dt_bc_PI_copy 3 rfl) rfl (lv_at hl 0 rfl) ?_
  refine va_get (D := E.1) (ci := 9) (v := .ref (E.2.1 (o0 + 24))) (C := "BlockPictures$Picture") (T := bF_PI) (N := 4) hx hb htb bc_in_PI hown hK hP o0 (bc_gPI E m hp_o0) rfl 0 (by decide) (htb _ tw_183) (fun _ h9 => h9) rfl (dt_bc_PI_copy 4 rfl) ?_
  refine lv_iconst (v := 0) hx hb (dt_bc_PI_copy 5 rfl) (by decide) ?_
  refine lv_sipush (v := 256) hx hb (dt_bc_PI_copy 6 rfl) (by decide) ?_
  obtain ⟨hg1, h⟩ := bp_g_s h
  refine bc_cpy E hx hb (hml.trans hl.1.symm) hown (htb _ tw_631) (htb _ tw_419) (htb _ tw_418) (htb _ tw_80) hK hP hD hS (bc_gps E hp_a1) (bc_gps E hp_o0) hg1 (Nat.le_of_ble_eq_true rfl) (Nat.le_of_ble_eq_true rfl) (dt_bc_PI_copy 7 rfl) (fun m2 em2 H locs hP hD hS => ?_)
  replace h := bp_nM_s h em2
  refine lv_aload_n hx hb (dt_bc_PI_copy 8 rfl) rfl (lv_at hl 0 rfl) ?_
  refine lv_aload_n hx hb (dt_bc_PI_copy 9 rfl) rfl (lv_at hl 1 rfl) ?_
  refine va_get (D := E.1) (ci := 9) (v := .int (m2.1 a1 1)) (C := "BlockPictures$Picture") (T := bF_PI) (N := 4) hx hb htb bc_in_PI hown hK hP a1 (bc_gPI E m2 hp_a1) rfl 1 (by decide) (htb _ tw_188) (fun _ h9 => h9) rfl (dt_bc_PI_copy 10 rfl) ?_
  refine bc_pPI_1 E hx hb htb hown hK hP hD hS hp_o0 (htb _ tw_188) (dt_bc_PI_copy 11 rfl) (fun m3 em3 H locs hP hD hS => ?_)
  replace h := bp_nM_s h em3
  refine lv_aload_n hx hb (dt_bc_PI_copy 12 rfl) rfl (lv_at hl 0 rfl) ?_
  refine lv_aload_n hx hb (dt_bc_PI_copy 13 rfl) rfl (lv_at hl 1 rfl) ?_
  refine va_get (D := E.1) (ci := 9) (v := .int (m3.1 a1 2)) (C := "BlockPictures$Picture") (T := bF_PI) (N := 4) hx hb htb bc_in_PI hown hK hP a1 (bc_gPI E m3 hp_a1) rfl 2 (by decide) (htb _ tw_192) (fun _ h9 => h9) rfl (dt_bc_PI_copy 14 rfl) ?_
  obtain ⟨hg5, h⟩ := bp_g_s h
  refine bc_pPI_2 E hx hb htb hown hK hP hD hS hp_o0 hg5 (htb _ tw_192) (dt_bc_PI_copy 15 rfl) (fun m4 em4 H locs hP hD hS => ?_)
  replace h := bp_nM_s h em4
  refine lv_aload_n hx hb (dt_bc_PI_copy 16 rfl) rfl (lv_at hl 0 rfl) ?_
  refine lv_aload_n hx hb (dt_bc_PI_copy 17 rfl) rfl (lv_at hl 1 rfl) ?_
  refine va_get (D := E.1) (ci := 9) (v := .int (m4.1 a1 3)) (C := "BlockPictures$Picture") (T := bF_PI) (N := 4) hx hb htb bc_in_PI hown hK hP a1 (bc_gPI E m4 hp_a1) rfl 3 (by decide) (htb _ tw_196) (fun _ h9 => h9) rfl (dt_bc_PI_copy 18 rfl) ?_
  obtain ⟨hg7, h⟩ := bp_g_s h
  refine bc_pPI_3 E hx hb htb hown hK hP hD hS hp_o0 hg7 (htb _ tw_196) (dt_bc_PI_copy 19 rfl) (fun m6 em6 H locs hP hD hS => ?_)
  replace h := bp_nM_s h em6
  exact hret _ _ _ _ _ h hP hD hS (dt_bc_PI_copy 20 rfl)
set_option maxHeartbeats 4000000 in
set_option maxRecDepth 100000 in
theorem wbc_PB_admit (l : Launch) (E : bc_E) (N : Nat) (a1 : Nat) (m : bp_M) (sz : Nat) (mr : bp_M) (hp_a1 : isPI a1) (h : bc_PB_admit N a1 m = some mr) : Met l y_bc_PB_admit (Cond.code y_bc_PB_admit prog_8_method_7_code 5 none :: bp_tb) ({ frames := 3, cells := 0, slots := 0, locals := 82 }) (bc_Pc E m sz [.ref (E.2.1 4), .ref (E.2.1 a1)]) (bc_Qv E m sz mr) 0 0 (va_A (bc_W E m) sz) := by
  refine Met.ofW (cc := prog_8_method_7_code) (maxL := 5) (ret := none) (by decide) rfl ?_
  intro p e s mt args below meth c s₁ B hml hv
  obtain ⟨rfl, hsz, hP, hK, hD0, hst⟩ := hv
  have hx := B.exec
  have hb := B.bytes
  have hr := B.returns
  have htb : ∀ w ∈ bp_tb, w.before _ s = true := fun w hw => atoms_spec (ws := Cond.code y_bc_PB_admit prog_8_method_7_code 5 none :: bp_tb) B.pre w (List.mem_cons_of_mem _ hw)
  have hown : s.vm.findClass "BlockPictures$PictureBuffer" = some mt.cls := findClass_of_methodNamed B.named
  have hlocks := B.notSynchronized
  subst hsz
  have hD := hD0.self (sz := s.heap.size)
  generalize hAe : va_A (bc_W E m) s.heap.size = A at hD hst ⊢
  have hsub : ∀ (u : bp_M) (z q : Nat), s.heap.size ≤ z → va_A (bc_W E u) z q → A q := bc_sub hAe
  have hS : va_S A s.heap s.heap [] := va_S.rf
  have hl := lv_entry ([.ref (E.2.1 4), .ref (E.2.1 a1)]) (n := 5) (Nat.le_of_ble_eq_true rfl)
  rw [lg_entry_eq]
  generalize (lg_sl ([.ref (E.2.1 4), .ref (E.2.1 a1)]) ++ List.replicate (5 - (lg_sl ([.ref (E.2.1 4), .ref (E.2.1 a1)])).length) Slot.unset).toArray = ls at hl ⊢
  have hl : lv_has ls 5 [(0, .ref (E.2.1 4)), (1, .ref (E.2.1 a1))] := hl
  refine bc_keyV (R := ({ frames := 3, cells := 0, slots := 0, locals := 82 })) E hx hb hr hlocks hK hAe (fun Q hret => ?_)
  clear B hD0 hlocks hr
  generalize ([.ref (E.2.1 4), .ref (E.2.1 a1)] : List Value).toArray = args at htb hret ⊢
  clear hAe
  have hL142 : ∀ (m : bp_M), bc_PB_admit_L142 N a1 m = some mr → ∀ (ls : Array Slot) (H : Heap) (locs : List Loc), lv_has ls 5 [] → va_P E.1 bp_cl (bc_W E m) H → va_D A (bc_W E m) → va_S A s.heap H locs → W p l e ({ frames := 3, cells := 0, slots := 0, locals := 82 }) s mt args below meth c H locs 0 0 Q (F0 mt 142 ls []) := by
    intro m h ls H locs hl hP hD hS
    rw [bc_PB_admit_L142] at h
    exact hret _ _ _ _ _ h hP hD hS (dt_bc_PB_admit 73 rfl)
  have hL107 : ∀ (x2 : Int32) (m : bp_M), bc_PB_admit_L107 N a1 x2 m = some mr → ∀ (ls : Array Slot) (H : Heap) (locs : List Loc), lv_has ls 5 [(0, .ref (E.2.1 4)), (1, .ref (E.2.1 a1)), (2, .int x2)] → va_P E.1 bp_cl (bc_W E m) H → va_D A (bc_W E m) → va_S A s.heap H locs → W p l e ({ frames := 3, cells := 0, slots := 0, locals := 82 }) s mt args below meth c H locs 0 0 Q (F0 mt 107 ls []) := by
    intro x2 m h ls H locs hl hP hD hS
    rw [bc_PB_admit_L107] at h
    refine lv_iload_n hx hb (dt_bc_PB_admit 54 rfl) rfl (lv_at hl 2 rfl) ?_
    refine lv_if_ne (tgt := 142) hx hb (dt_bc_PB_admit 55 rfl) (by decide) (fun hc => ?_) (fun hc => ?_)
    · replace h := (if_pos hc).symm.trans h
      exact hL142 _ h ls H locs (lv_sub hl [] rfl) hP hD hS
    · replace h := (if_neg (fun hn => hn hc)).symm.trans h
      refine lv_aload_n hx hb (dt_bc_PB_admit 56 rfl) rfl (lv_at hl 0 rfl) ?_
      refine va_get (D := E.1) (ci := 4) (v := .int (m.1 4 1)) (C := "BlockPictures$PictureBuffer") (T := bF_PB) (N := 6) hx hb htb bc_in_PB hown hK hP 4 (bc_gPB E m) rfl 1 (by decide) (htb _ tw_309) (fun _ h9 => h9) rfl (dt_bc_PB_admit 57 rfl) ?_
      refine lv_iconst (v := 4) hx hb (dt_bc_PB_admit 58 rfl) (by decide) ?_
      refine lv_icmp_ge (tgt := 142) hx hb (dt_bc_PB_admit 59 rfl) (by decide) (fun hc => ?_) (fun hc => ?_)
      · replace h := (if_pos hc).symm.trans h
        exact hL142 _ h ls H locs (lv_sub hl [] rfl) hP hD hS
      · replace h := (if_neg hc).symm.trans h
        refine lv_aload_n hx hb (dt_bc_PB_admit 60 rfl) rfl (lv_at hl 0 rfl) ?_
        refine va_get (D := E.1) (ci := 4) (v := .ref (E.2.1 40)) (C := "BlockPictures$PictureBuffer") (T := bF_PB) (N := 6) hx hb htb bc_in_PB hown hK hP 4 (bc_gPB E m) rfl 0 (by decide) (htb _ tw_307) (fun _ h9 => h9) rfl (dt_bc_PB_admit 61 rfl) ?_
        refine lv_aload_n hx hb (dt_bc_PB_admit 62 rfl) rfl (lv_at hl 0 rfl) ?_
        refine va_get (D := E.1) (ci := 4) (v := .int (m.1 4 1)) (C := "BlockPictures$PictureBuffer") (T := bF_PB) (N := 6) hx hb htb bc_in_PB hown hK hP 4 (bc_gPB E m) rfl 1 (by decide) (htb _ tw_309) (fun _ h9 => h9) rfl (dt_bc_PB_admit 63 rfl) ?_
        obtain ⟨hg1, h⟩ := bp_gi_s h
        refine bc_lP E hx hb hK hP (bc_ga40 E) hg1 (dt_bc_PB_admit 64 rfl) (fun q2 eq2 => ?_)
        replace h := bp_nN_s h eq2
        obtain ⟨hg3, h⟩ := bp_g_s h
        refine lv_aload_n hx hb (dt_bc_PB_admit 65 rfl) rfl (lv_at hl 1 rfl) ?_
        obtain ⟨m4, hm4, h⟩ := bp_cV_s h
        refine bc_callV E hsub hS (va_runV (As := [.ref (E.2.1 a1)]) (rest := []) ⟨hx, hb, hml, hown, htb⟩ (wbc_PI_copy l E N q2 a1 m H.size m4 hg3 hp_a1 hm4) (cwV 1 htb (bp_goodV tw_627 tw_628 tw_629 tw_74 tw_630) rfl rfl rfl ⟨rfl, hd_bc_PI_copy⟩ ⟨Nat.le_of_ble_eq_true rfl, Nat.le_of_ble_eq_true rfl⟩) (bc_preV E hsub hst hK hP hD hS (bc_gPI E m hg3) rfl rfl _) rfl rfl hl.1 rfl (lv_room (Nat.le_of_ble_eq_true rfl)) (dt_bc_PB_admit 66 rfl) ⟨Nat.zero_le _, Nat.zero_le _⟩) (fun H locs hP hD hS => ?_)
        refine lv_aload_n hx hb (dt_bc_PB_admit 67 rfl) rfl (lv_at hl 0 rfl) ?_
        refine lv_dup hx hb (dt_bc_PB_admit 68 rfl) rfl ?_
        refine va_get (D := E.1) (ci := 4) (v := .int (m4.1 4 1)) (C := "BlockPictures$PictureBuffer") (T := bF_PB) (N := 6) hx hb htb bc_in_PB hown hK hP 4 (bc_gPB E m4) rfl 1 (by decide) (htb _ tw_309) (fun _ h9 => h9) rfl (dt_bc_PB_admit 69 rfl) ?_
        refine lv_iconst (v := 1) hx hb (dt_bc_PB_admit 70 rfl) (by decide) ?_
        refine lv_iadd hx hb (dt_bc_PB_admit 71 rfl) ?_
        refine bc_pPB_1 E hx hb htb hown hK hP hD hS (htb _ tw_309) (dt_bc_PB_admit 72 rfl) (fun m5 em5 H locs hP hD hS => ?_)
        replace h := bp_nM_s h em5
        exact hL142 _ h ls H locs (lv_sub hl [] rfl) hP hD hS
  have hL19 : ∀ (n19 : Nat) (x2 : Int32) (x3 : Int32) (m : bp_M), bc_PB_admit_L19 N a1 n19 x2 x3 m = some mr → ∀ (ls : Array Slot) (H : Heap) (locs : List Loc), lv_has ls 5 [(0, .ref (E.2.1 4)), (1, .ref (E.2.1 a1)), (2, .int x2), (3, .int x3)] → va_P E.1 bp_cl (bc_W E m) H → va_D A (bc_W E m) → va_S A s.heap H locs → W p l e ({ frames := 3, cells := 0, slots := 0, locals := 82 }) s mt args below meth c H locs 0 0 Q (F0 mt 19 ls []) := by
    intro n19
    induction n19 with
    | zero =>
      intro x2 x3 m h ls H locs hl hP hD hS
      rw [bc_PB_admit_L19] at h
      cases h
    | succ n19 ih19 =>
      have hL101 : ∀ (x2 : Int32) (x3 : Int32) (m : bp_M), bc_PB_admit_L101 (bc_PB_admit_L19 N a1 n19) N a1 x2 x3 m = some mr → ∀ (ls : Array Slot) (H : Heap) (locs : List Loc), lv_has ls 5 [(0, .ref (E.2.1 4)), (1, .ref (E.2.1 a1)), (2, .int x2), (3, .int x3)] → va_P E.1 bp_cl (bc_W E m) H → va_D A (bc_W E m) → va_S A s.heap H locs → W p l e ({ frames := 3, cells := 0, slots := 0, locals := 82 }) s mt args below meth c H locs 0 0 Q (F0 mt 101 ls []) := by
        intro x2 x3 m h ls H locs hl hP hD hS
        rw [bc_PB_admit_L101] at h
        obtain ⟨y1, ey1⟩ : ∃ z : Int32, z = x3 + 1 := ⟨_, rfl⟩
        replace h := bp_nI_s h ey1
        refine lv_iinc (k := 3) (v := y1) hx hb (dt_bc_PB_admit 52 rfl) hl rfl (by rw [ey1]; rfl) (Nat.le_of_ble_eq_true rfl) rfl (fun ls hl => ?_)
        have hl : lv_has ls 5 [(3, .int y1), (0, .ref (E.2.1 4)), (1, .ref (E.2.1 a1)), (2, .int x2)] := hl
        refine lv_goto (tgt := 19) hx hb (dt_bc_PB_admit 53 rfl) (by decide) ?_
        exact ih19 _ _ _ h ls H locs (lv_sub hl [1, 2, 3, 0] rfl) hP hD hS
      have hL80 : ∀ (x3 : Int32) (s0 : Int32) (m : bp_M), bc_PB_admit_L80 (bc_PB_admit_L19 N a1 n19) N a1 x3 s0 m = some mr → ∀ (ls : Array Slot) (H : Heap) (locs : List Loc), lv_has ls 5 [(0, .ref (E.2.1 4)), (1, .ref (E.2.1 a1)), (3, .int x3)] → va_P E.1 bp_cl (bc_W E m) H → va_D A (bc_W E m) → va_S A s.heap H locs → W p l e ({ frames := 3, cells := 0, slots := 0, locals := 82 }) s mt args below meth c H locs 0 0 Q (F0 mt 80 ls [.int s0]) := by
        intro x3 s0 m h ls H locs hl hP hD hS
        rw [bc_PB_admit_L80] at h
        refine lv_istore_n hx hb (dt_bc_PB_admit 41 rfl) rfl hl (Nat.le_of_ble_eq_true rfl) rfl (fun ls hl => ?_)
        have hl : lv_has ls 5 [(2, .int s0), (0, .ref (E.2.1 4)), (1, .ref (E.2.1 a1)), (3, .int x3)] := hl
        refine lv_iload_n hx hb (dt_bc_PB_admit 42 rfl) rfl (lv_at hl 0 rfl) ?_
        refine lv_if_eq (tgt := 93) hx hb (dt_bc_PB_admit 43 rfl) (by decide) (fun hc => ?_) (fun hc => ?_)
        · replace h := (if_pos hc).symm.trans h
          refine lv_aload_n hx hb (dt_bc_PB_admit 48 rfl) rfl (lv_at hl 1 rfl) ?_
          obtain ⟨m1, hm1, h⟩ := bp_cV_s h
          refine bc_callV E hsub hS (va_runV (As := []) (rest := []) ⟨hx, hb, hml, hown, htb⟩ (wbc_PB_showLeast l E N  m H.size m1 hm1) (cwV 0 htb (bp_goodV tw_598 tw_600 tw_21 tw_77 tw_601) rfl rfl rfl ⟨rfl, hd_bc_PB_showLeast⟩ ⟨Nat.le_of_ble_eq_true rfl, Nat.le_of_ble_eq_true rfl⟩) (bc_preV E hsub hst hK hP hD hS (bc_gPB E m) rfl rfl _) rfl rfl hl.1 rfl (lv_room (Nat.le_of_ble_eq_true rfl)) (dt_bc_PB_admit 49 rfl) ⟨Nat.zero_le _, Nat.zero_le _⟩) (fun H locs hP hD hS => ?_)
          refine lv_aload_n hx hb (dt_bc_PB_admit 50 rfl) rfl (lv_at hl 1 rfl) ?_
          obtain ⟨m2, hm2, h⟩ := bp_cV_s h
          refine bc_callV E hsub hS (va_runV (As := []) (rest := []) ⟨hx, hb, hml, hown, htb⟩ (wbc_PB_sweep l E N  m1 H.size m2 hm2) (cwV 0 htb (bp_goodV tw_623 tw_625 tw_25 tw_77 tw_626) rfl rfl rfl ⟨rfl, hd_bc_PB_sweep⟩ ⟨Nat.le_of_ble_eq_true rfl, Nat.le_of_ble_eq_true rfl⟩) (bc_preV E hsub hst hK hP hD hS (bc_gPB E m1) rfl rfl _) rfl rfl hl.1 rfl (lv_room (Nat.le_of_ble_eq_true rfl)) (dt_bc_PB_admit 51 rfl) ⟨Nat.zero_le _, Nat.zero_le _⟩) (fun H locs hP hD hS => ?_)
          exact hL101 _ _ _ h ls H locs (lv_sub hl [1, 2, 0, 3] rfl) hP hD hS
        · replace h := (if_neg hc).symm.trans h
          refine lv_aload_n hx hb (dt_bc_PB_admit 44 rfl) rfl (lv_at hl 1 rfl) ?_
          refine lv_aload_n hx hb (dt_bc_PB_admit 45 rfl) rfl (lv_at hl 2 rfl) ?_
          obtain ⟨m3, hm3, h⟩ := bp_cV_s h
          refine bc_callV E hsub hS (va_runV (As := [.ref (E.2.1 a1)]) (rest := []) ⟨hx, hb, hml, hown, htb⟩ (wbc_PB_show l E N a1 m H.size m3 hp_a1 hm3) (cwV 1 htb (bp_goodV tw_606 tw_608 tw_23 tw_77 tw_609) rfl rfl rfl ⟨rfl, hd_bc_PB_show⟩ ⟨Nat.le_of_ble_eq_true rfl, Nat.le_of_ble_eq_true rfl⟩) (bc_preV E hsub hst hK hP hD hS (bc_gPB E m) rfl rfl _) rfl rfl hl.1 rfl (lv_room (Nat.le_of_ble_eq_true rfl)) (dt_bc_PB_admit 46 rfl) ⟨Nat.zero_le _, Nat.zero_le _⟩) (fun H locs hP hD hS => ?_)
          refine lv_goto (tgt := 101) hx hb (dt_bc_PB_admit 47 rfl) (by decide) ?_
          exact hL101 _ _ _ h ls H locs (lv_sub hl [1, 2, 0, 3] rfl) hP hD hS
      have hL79 : ∀ (x3 : Int32) (m : bp_M), bc_PB_admit_L79 (bc_PB_admit_L19 N a1 n19) N a1 x3 m = some mr → ∀ (ls : Array Slot) (H : Heap) (locs : List Loc), lv_has ls 5 [(0, .ref (E.2.1 4)), (1, .ref (E.2.1 a1)), (3, .int x3)] → va_P E.1 bp_cl (bc_W E m) H → va_D A (bc_W E m) → va_S A s.heap H locs → W p l e ({ frames := 3, cells := 0, slots := 0, locals := 82 }) s mt args below meth c H locs 0 0 Q (F0 mt 79 ls []) := by
        intro x3 m h ls H locs hl hP hD hS
        rw [bc_PB_admit_L79] at h
        refine lv_iconst (v := 0) hx hb (dt_bc_PB_admit 40 rfl) (by decide) ?_
        exact hL80 _ _ _ h ls H locs (lv_sub hl [0, 1, 2] rfl) hP hD hS
      have hL75 : ∀ (x3 : Int32) (m : bp_M), bc_PB_admit_L75 (bc_PB_admit_L19 N a1 n19) N a1 x3 m = some mr → ∀ (ls : Array Slot) (H : Heap) (locs : List Loc), lv_has ls 5 [(0, .ref (E.2.1 4)), (1, .ref (E.2.1 a1)), (3, .int x3)] → va_P E.1 bp_cl (bc_W E m) H → va_D A (bc_W E m) → va_S A s.heap H locs → W p l e ({ frames := 3, cells := 0, slots := 0, locals := 82 }) s mt args below meth c H locs 0 0 Q (F0 mt 75 ls []) := by
        intro x3 m h ls H locs hl hP hD hS
        rw [bc_PB_admit_L75] at h
        refine lv_iconst (v := 1) hx hb (dt_bc_PB_admit 38 rfl) (by decide) ?_
        refine lv_goto (tgt := 80) hx hb (dt_bc_PB_admit 39 rfl) (by decide) ?_
        exact hL80 _ _ _ h ls H locs (lv_sub hl [0, 1, 2] rfl) hP hD hS
      intro x2 x3 m h ls H locs hl hP hD hS
      rw [bc_PB_admit_L19] at h
      refine lv_iload_n hx hb (dt_bc_PB_admit 11 rfl) rfl (lv_at hl 3 rfl) ?_
      refine lv_iconst (v := 4) hx hb (dt_bc_PB_admit 12 rfl) (by decide) ?_
      refine lv_icmp_gt (tgt := 107) hx hb (dt_bc_PB_admit 13 rfl) (by decide) (fun hc => ?_) (fun hc => ?_)
      · replace h := (if_pos hc).symm.trans h
        exact hL107 _ _ h ls H locs (lv_sub hl [0, 1, 2] rfl) hP hD hS
      · replace h := (if_neg hc).symm.trans h
        refine lv_aload_n hx hb (dt_bc_PB_admit 14 rfl) rfl (lv_at hl 0 rfl) ?_
        refine va_get (D := E.1) (ci := 4) (v := .int (m.1 4 1)) (C := "BlockPictures$PictureBuffer") (T := bF_PB) (N := 6) hx hb htb bc_in_PB hown hK hP 4 (bc_gPB E m) rfl 1 (by decide) (htb _ tw_309) (fun _ h9 => h9) rfl (dt_bc_PB_admit 15 rfl) ?_
        refine lv_aload_n hx hb (dt_bc_PB_admit 16 rfl) rfl (lv_at hl 0 rfl) ?_
        refine va_get (D := E.1) (ci := 4) (v := .int (m.1 4 2)) (C := "BlockPictures$PictureBuffer") (T := bF_PB) (N := 6) hx hb htb bc_in_PB hown hK hP 4 (bc_gPB E m) rfl 2 (by decide) (htb _ tw_311) (fun _ h9 => h9) rfl (dt_bc_PB_admit 17 rfl) ?_
        refine lv_icmp_lt (tgt := 107) hx hb (dt_bc_PB_admit 18 rfl) (by decide) (fun hc => ?_) (fun hc => ?_)
        · replace h := (if_pos hc).symm.trans h
          exact hL107 _ _ h ls H locs (lv_sub hl [0, 1, 2] rfl) hP hD hS
        · replace h := (if_neg hc).symm.trans h
          refine lv_iload_n hx hb (dt_bc_PB_admit 19 rfl) rfl (lv_at hl 2 rfl) ?_
          refine lv_if_ne (tgt := 107) hx hb (dt_bc_PB_admit 20 rfl) (by decide) (fun hc => ?_) (fun hc => ?_)
          · replace h := (if_pos hc).symm.trans h
            exact hL107 _ _ h ls H locs (lv_sub hl [0, 1, 2] rfl) hP hD hS
          · replace h := (if_neg (fun hn => hn hc)).symm.trans h
            refine lv_aload_n hx hb (dt_bc_PB_admit 21 rfl) rfl (lv_at hl 0 rfl) ?_
            obtain ⟨z2, m1, hm1, h⟩ := bp_cI_s h
            refine bc_callI E hsub hS (va_runV (As := []) (rest := []) ⟨hx, hb, hml, hown, htb⟩ (wbc_PB_leastWaiting l E N  m H.size z2 m1 hm1) (cwV 0 htb (bp_goodV tw_602 tw_604 tw_22 tw_77 tw_605) rfl rfl rfl ⟨rfl, hd_bc_PB_leastWaiting⟩ ⟨Nat.le_of_ble_eq_true rfl, Nat.le_of_ble_eq_true rfl⟩) (bc_preV E hsub hst hK hP hD hS (bc_gPB E m) rfl rfl _) rfl rfl hl.1 rfl (lv_room (Nat.le_of_ble_eq_true rfl)) (dt_bc_PB_admit 22 rfl) ⟨Nat.zero_le _, Nat.zero_le _⟩) (fun H locs hP hD hS => ?_)
            refine lv_istore hx hb (dt_bc_PB_admit 23 rfl) hl (Nat.le_of_ble_eq_true rfl) rfl (fun ls hl => ?_)
            have hl : lv_has ls 5 [(4, .int z2), (0, .ref (E.2.1 4)), (1, .ref (E.2.1 a1)), (2, .int x2), (3, .int x3)] := hl
            refine lv_aload_n hx hb (dt_bc_PB_admit 24 rfl) rfl (lv_at hl 2 rfl) ?_
            refine va_get (D := E.1) (ci := 9) (v := .int (m1.1 a1 2)) (C := "BlockPictures$Picture") (T := bF_PI) (N := 4) hx hb htb bc_in_PI hown hK hP a1 (bc_gPI E m1 hp_a1) rfl 2 (by decide) (htb _ tw_194) (fun _ h9 => h9) rfl (dt_bc_PB_admit 25 rfl) ?_
            refine lv_if_ne (tgt := 79) hx hb (dt_bc_PB_admit 26 rfl) (by decide) (fun hc => ?_) (fun hc => ?_)
            · replace h := (if_pos hc).symm.trans h
              exact hL79 _ _ h ls H locs (lv_sub hl [1, 2, 4] rfl) hP hD hS
            · replace h := (if_neg (fun hn => hn hc)).symm.trans h
              refine lv_iload hx hb (dt_bc_PB_admit 27 rfl) (lv_at hl 0 rfl) ?_
              refine lv_iconst (v := (-1)) hx hb (dt_bc_PB_admit 28 rfl) (by decide) ?_
              refine lv_icmp_eq (tgt := 75) hx hb (dt_bc_PB_admit 29 rfl) (by decide) (fun hc => ?_) (fun hc => ?_)
              · replace h := (if_pos hc).symm.trans h
                exact hL75 _ _ h ls H locs (lv_sub hl [1, 2, 4] rfl) hP hD hS
              · replace h := (if_neg hc).symm.trans h
                refine lv_aload_n hx hb (dt_bc_PB_admit 30 rfl) rfl (lv_at hl 1 rfl) ?_
                refine va_get (D := E.1) (ci := 4) (v := .ref (E.2.1 40)) (C := "BlockPictures$PictureBuffer") (T := bF_PB) (N := 6) hx hb htb bc_in_PB hown hK hP 4 (bc_gPB E m1) rfl 0 (by decide) (htb _ tw_307) (fun _ h9 => h9) rfl (dt_bc_PB_admit 31 rfl) ?_
                refine lv_iload hx hb (dt_bc_PB_admit 32 rfl) (lv_at hl 0 rfl) ?_
                obtain ⟨hg3, h⟩ := bp_gi_s h
                refine bc_lP E hx hb hK hP (bc_ga40 E) hg3 (dt_bc_PB_admit 33 rfl) (fun q4 eq4 => ?_)
                replace h := bp_nN_s h eq4
                obtain ⟨hg5, h⟩ := bp_g_s h
                refine va_get (D := E.1) (ci := 9) (v := .int (m1.1 q4 1)) (C := "BlockPictures$Picture") (T := bF_PI) (N := 4) hx hb htb bc_in_PI hown hK hP q4 (bc_gPI E m1 hg5) rfl 1 (by decide) (htb _ tw_190) (fun _ h9 => h9) rfl (dt_bc_PB_admit 34 rfl) ?_
                refine lv_aload_n hx hb (dt_bc_PB_admit 35 rfl) rfl (lv_at hl 2 rfl) ?_
                refine va_get (D := E.1) (ci := 9) (v := .int (m1.1 a1 1)) (C := "BlockPictures$Picture") (T := bF_PI) (N := 4) hx hb htb bc_in_PI hown hK hP a1 (bc_gPI E m1 hp_a1) rfl 1 (by decide) (htb _ tw_190) (fun _ h9 => h9) rfl (dt_bc_PB_admit 36 rfl) ?_
                refine lv_icmp_le (tgt := 79) hx hb (dt_bc_PB_admit 37 rfl) (by decide) (fun hc => ?_) (fun hc => ?_)
                · replace h := (if_pos hc).symm.trans h
                  exact hL79 _ _ h ls H locs (lv_sub hl [1, 2, 4] rfl) hP hD hS
                · replace h := (if_neg hc).symm.trans h
                  exact hL75 _ _ h ls H locs (lv_sub hl [1, 2, 4] rfl) hP hD hS
  have hL11 : ∀ (m : bp_M), bc_PB_admit_L11 N a1 m = some mr → ∀ (ls : Array Slot) (H : Heap) (locs : List Loc), lv_has ls 5 [(0, .ref (E.2.1 4)), (1, .ref (E.2.1 a1))] → va_P E.1 bp_cl (bc_W E m) H → va_D A (bc_W E m) → va_S A s.heap H locs → W p l e ({ frames := 3, cells := 0, slots := 0, locals := 82 }) s mt args below meth c H locs 0 0 Q (F0 mt 11 ls []) := by
    intro m h ls H locs hl hP hD hS
    rw [bc_PB_admit_L11] at h
    refine lv_aload_n hx hb (dt_bc_PB_admit 5 rfl) rfl (lv_at hl 0 rfl) ?_
    obtain ⟨m1, hm1, h⟩ := bp_cV_s h
    refine bc_callV E hsub hS (va_runV (As := []) (rest := []) ⟨hx, hb, hml, hown, htb⟩ (wbc_PB_sweep l E N  m H.size m1 hm1) (cwV 0 htb (bp_goodV tw_623 tw_625 tw_25 tw_77 tw_626) rfl rfl rfl ⟨rfl, hd_bc_PB_sweep⟩ ⟨Nat.le_of_ble_eq_true rfl, Nat.le_of_ble_eq_true rfl⟩) (bc_preV E hsub hst hK hP hD hS (bc_gPB E m) rfl rfl _) rfl rfl hl.1 rfl (lv_room (Nat.le_of_ble_eq_true rfl)) (dt_bc_PB_admit 6 rfl) ⟨Nat.zero_le _, Nat.zero_le _⟩) (fun H locs hP hD hS => ?_)
    refine lv_iconst (v := 0) hx hb (dt_bc_PB_admit 7 rfl) (by decide) ?_
    refine lv_istore_n hx hb (dt_bc_PB_admit 8 rfl) rfl hl (Nat.le_of_ble_eq_true rfl) rfl (fun ls hl => ?_)
    have hl : lv_has ls 5 [(2, .int 0), (0, .ref (E.2.1 4)), (1, .ref (E.2.1 a1))] := hl
    refine lv_iconst (v := 0) hx hb (dt_bc_PB_admit 9 rfl) (by decide) ?_
    refine lv_istore_n hx hb (dt_bc_PB_admit 10 rfl) rfl hl (Nat.le_of_ble_eq_true rfl) rfl (fun ls hl => ?_)
    have hl : lv_has ls 5 [(3, .int 0), (2, .int 0), (0, .ref (E.2.1 4)), (1, .ref (E.2.1 a1))] := hl
    exact hL19 _ _ _ _ h ls H locs (lv_sub hl [2, 3, 1, 0] rfl) hP hD hS
  suffices hgo : ∀ (H : Heap) (locs : List Loc), va_P E.1 bp_cl (bc_W E m) H → va_D A (bc_W E m) → va_S A s.heap H locs → W p l e ({ frames := 3, cells := 0, slots := 0, locals := 82 }) s mt args below meth c H locs 0 0 Q (F0 mt 0 ls []) from hgo _ _ hP hD hS
  clear hP hD hS
  intro H locs hP hD hS
  unfold bc_PB_admit at h
  refine lv_aload_n hx hb (dt_bc_PB_admit 0 rfl) rfl (lv_at hl 1 rfl) ?_
  refine va_get (D := E.1) (ci := 9) (v := .int (m.1 a1 2)) (C := "BlockPictures$Picture") (T := bF_PI) (N := 4) hx hb htb bc_in_PI hown hK hP a1 (bc_gPI E m hp_a1) rfl 2 (by decide) (htb _ tw_194) (fun _ h9 => h9) rfl (dt_bc_PB_admit 1 rfl) ?_
  refine lv_if_eq (tgt := 11) hx hb (dt_bc_PB_admit 2 rfl) (by decide) (fun hc => ?_) (fun hc => ?_)
  · replace h := (if_pos hc).symm.trans h
    exact hL11 _ h ls H locs (lv_sub hl [0, 1] rfl) hP hD hS
  · replace h := (if_neg hc).symm.trans h
    refine lv_aload_n hx hb (dt_bc_PB_admit 3 rfl) rfl (lv_at hl 0 rfl) ?_
    obtain ⟨m1, hm1, h⟩ := bp_cV_s h
    refine bc_callV E hsub hS (va_runV (As := []) (rest := []) ⟨hx, hb, hml, hown, htb⟩ (wbc_PB_makeRoomForReference l E N  m H.size m1 hm1) (cwV 0 htb (bp_goodV tw_619 tw_621 tw_24 tw_77 tw_622) rfl rfl rfl ⟨rfl, hd_bc_PB_makeRoomForReference⟩ ⟨Nat.le_of_ble_eq_true rfl, Nat.le_of_ble_eq_true rfl⟩) (bc_preV E hsub hst hK hP hD hS (bc_gPB E m) rfl rfl _) rfl rfl hl.1 rfl (lv_room (Nat.le_of_ble_eq_true rfl)) (dt_bc_PB_admit 4 rfl) ⟨Nat.zero_le _, Nat.zero_le _⟩) (fun H locs hP hD hS => ?_)
    exact hL11 _ h ls H locs (lv_sub hl [0, 1] rfl) hP hD hS
set_option maxHeartbeats 4000000 in
set_option maxRecDepth 100000 in
theorem wbc_BP_takePicture (l : Launch) (E : bc_E) (N : Nat) (a1 : Int32) (a2 : Int32) (m : bp_M) (sz : Nat) (mr : bp_M)  (h : bc_BP_takePicture N a1 a2 m = some mr) : Met l y_bc_BP_takePicture (Cond.code y_bc_BP_takePicture prog_1_method_21_code 4 none :: bp_tb) ({ frames := 4, cells := 0, slots := 0, locals := 123 }) (bc_Pc E m sz [.ref (E.2.1 0), .int a1, .int a2]) (bc_Qv E m sz mr) 0 0 (va_A (bc_W E m) sz) := by
  refine Met.ofW (cc := prog_1_method_21_code) (maxL := 4) (ret := none) (by decide) rfl ?_
  intro p e s mt args below meth c s₁ B hml hv
  obtain ⟨rfl, hsz, hP, hK, hD0, hst⟩ := hv
  have hx := B.exec
  have hb := B.bytes
  have hr := B.returns
  have htb : ∀ w ∈ bp_tb, w.before _ s = true := fun w hw => atoms_spec (ws := Cond.code y_bc_BP_takePicture prog_1_method_21_code 4 none :: bp_tb) B.pre w (List.mem_cons_of_mem _ hw)
  have hown : s.vm.findClass "BlockPictures" = some mt.cls := findClass_of_methodNamed B.named
  have hlocks := B.notSynchronized
  subst hsz
  have hD := hD0.self (sz := s.heap.size)
  generalize hAe : va_A (bc_W E m) s.heap.size = A at hD hst ⊢
  have hsub : ∀ (u : bp_M) (z q : Nat), s.heap.size ≤ z → va_A (bc_W E u) z q → A q := bc_sub hAe
  have hS : va_S A s.heap s.heap [] := va_S.rf
  have hl := lv_entry ([.ref (E.2.1 0), .int a1, .int a2]) (n := 4) (Nat.le_of_ble_eq_true rfl)
  rw [lg_entry_eq]
  generalize (lg_sl ([.ref (E.2.1 0), .int a1, .int a2]) ++ List.replicate (4 - (lg_sl ([.ref (E.2.1 0), .int a1, .int a2])).length) Slot.unset).toArray = ls at hl ⊢
  have hl : lv_has ls 4 [(0, .ref (E.2.1 0)), (1, .int a1), (2, .int a2)] := hl
  refine bc_keyV (R := ({ frames := 4, cells := 0, slots := 0, locals := 123 })) E hx hb hr hlocks hK hAe (fun Q hret => ?_)
  clear B hD0 hlocks hr
  generalize ([.ref (E.2.1 0), .int a1, .int a2] : List Value).toArray = args at htb hret ⊢
  clear hAe
  have hL182 : ∀ (m : bp_M), bc_BP_takePicture_L182 N a1 a2 m = some mr → ∀ (ls : Array Slot) (H : Heap) (locs : List Loc), lv_has ls 4 [(0, .ref (E.2.1 0))] → va_P E.1 bp_cl (bc_W E m) H → va_D A (bc_W E m) → va_S A s.heap H locs → W p l e ({ frames := 4, cells := 0, slots := 0, locals := 123 }) s mt args below meth c H locs 0 0 Q (F0 mt 182 ls []) := by
    intro m h ls H locs hl hP hD hS
    rw [bc_BP_takePicture_L182] at h
    refine lv_aload_n hx hb (dt_bc_BP_takePicture 82 rfl) rfl (lv_at hl 0 rfl) ?_
    refine va_get (D := E.1) (ci := 0) (v := .ref (E.2.1 4)) (C := "BlockPictures") (T := bF_BP) (N := 7) hx hb htb bc_in_BP hown hK hP 0 (bc_gBP E m) rfl 3 (by decide) (htb _ tw_362) (fun _ h9 => h9) rfl (dt_bc_BP_takePicture 83 rfl) ?_
    refine lv_aload_n hx hb (dt_bc_BP_takePicture 84 rfl) rfl (lv_at hl 0 rfl) ?_
    refine va_get (D := E.1) (ci := 0) (v := .ref (E.2.1 3)) (C := "BlockPictures") (T := bF_BP) (N := 7) hx hb htb bc_in_BP hown hK hP 0 (bc_gBP E m) rfl 2 (by decide) (htb _ tw_361) (fun _ h9 => h9) rfl (dt_bc_BP_takePicture 85 rfl) ?_
    refine va_get (D := E.1) (ci := 3) (v := .ref (E.2.1 10)) (C := "BlockPictures$PictureDecoder") (T := bF_PD) (N := 11) hx hb htb bc_in_PD hown hK hP 3 (bc_gPD E m) rfl 1 (by decide) (htb _ tw_262) (fun _ h9 => h9) rfl (dt_bc_BP_takePicture 86 rfl) ?_
    obtain ⟨m1, hm1, h⟩ := bp_cV_s h
    refine bc_callV E hsub hS (va_runV (As := [.ref (E.2.1 10)]) (rest := []) ⟨hx, hb, hml, hown, htb⟩ (wbc_PB_admit l E N 10 m H.size m1 (by decide) hm1) (cwV 1 htb (bp_goodV tw_615 tw_616 tw_617 tw_77 tw_618) rfl rfl rfl ⟨rfl, hd_bc_PB_admit⟩ ⟨Nat.le_of_ble_eq_true rfl, Nat.le_of_ble_eq_true rfl⟩) (bc_preV E hsub hst hK hP hD hS (bc_gPB E m) rfl rfl _) rfl rfl hl.1 rfl (lv_room (Nat.le_of_ble_eq_true rfl)) (dt_bc_BP_takePicture 87 rfl) ⟨Nat.zero_le _, Nat.zero_le _⟩) (fun H locs hP hD hS => ?_)
    exact hret _ _ _ _ _ h hP hD hS (dt_bc_BP_takePicture 88 rfl)
  have hL118 : ∀ (m : bp_M), bc_BP_takePicture_L118 N a1 a2 m = some mr → ∀ (ls : Array Slot) (H : Heap) (locs : List Loc), lv_has ls 4 [(0, .ref (E.2.1 0)), (1, .int a1), (3, .ref (E.2.1 6))] → va_P E.1 bp_cl (bc_W E m) H → va_D A (bc_W E m) → va_S A s.heap H locs → W p l e ({ frames := 4, cells := 0, slots := 0, locals := 123 }) s mt args below meth c H locs 0 0 Q (F0 mt 118 ls []) := by
    intro m h ls H locs hl hP hD hS
    rw [bc_BP_takePicture_L118] at h
    refine lv_aload_n hx hb (dt_bc_BP_takePicture 54 rfl) rfl (lv_at hl 2 rfl) ?_
    refine va_get (D := E.1) (ci := 6) (v := .int (m.1 6 3)) (C := "BlockPictures$BitReader") (T := bF_BR) (N := 4) hx hb htb bc_in_BR hown hK hP 6 (bc_gBR E m) rfl 3 (by decide) (htb _ tw_167) (fun _ h9 => h9) rfl (dt_bc_BP_takePicture 55 rfl) ?_
    refine lv_if_eq (tgt := 126) hx hb (dt_bc_BP_takePicture 56 rfl) (by decide) (fun hc => ?_) (fun hc => ?_)
    · replace h := (if_pos hc).symm.trans h
      refine lv_aload_n hx hb (dt_bc_BP_takePicture 58 rfl) rfl (lv_at hl 0 rfl) ?_
      refine va_get (D := E.1) (ci := 0) (v := .ref (E.2.1 3)) (C := "BlockPictures") (T := bF_BP) (N := 7) hx hb htb bc_in_BP hown hK hP 0 (bc_gBP E m) rfl 2 (by decide) (htb _ tw_361) (fun _ h9 => h9) rfl (dt_bc_BP_takePicture 59 rfl) ?_
      obtain ⟨m1, hm1, h⟩ := bp_cV_s h
      refine bc_callV E hsub hS (va_runV (As := []) (rest := []) ⟨hx, hb, hml, hown, htb⟩ (wbc_PD_finish l E N  m H.size m1 hm1) (cwV 0 htb (bp_goodV tw_568 tw_569 tw_570 tw_72 tw_571) rfl rfl rfl ⟨rfl, hd_bc_PD_finish⟩ ⟨Nat.le_of_ble_eq_true rfl, Nat.le_of_ble_eq_true rfl⟩) (bc_preV E hsub hst hK hP hD hS (bc_gPD E m) rfl rfl _) rfl rfl hl.1 rfl (lv_room (Nat.le_of_ble_eq_true rfl)) (dt_bc_BP_takePicture 60 rfl) ⟨Nat.zero_le _, Nat.zero_le _⟩) (fun H locs hP hD hS => ?_)
      refine lv_iload_n hx hb (dt_bc_BP_takePicture 61 rfl) rfl (lv_at hl 1 rfl) ?_
      refine lv_if_eq (tgt := 168) hx hb (dt_bc_BP_takePicture 62 rfl) (by decide) (fun hc => ?_) (fun hc => ?_)
      · replace h := (if_pos hc).symm.trans h
        refine lv_aload_n hx hb (dt_bc_BP_takePicture 76 rfl) rfl (lv_at hl 0 rfl) ?_
        refine va_get (D := E.1) (ci := 0) (v := .ref (E.2.1 4)) (C := "BlockPictures") (T := bF_BP) (N := 7) hx hb htb bc_in_BP hown hK hP 0 (bc_gBP E m1) rfl 3 (by decide) (htb _ tw_362) (fun _ h9 => h9) rfl (dt_bc_BP_takePicture 77 rfl) ?_
        refine lv_aload_n hx hb (dt_bc_BP_takePicture 78 rfl) rfl (lv_at hl 0 rfl) ?_
        refine va_get (D := E.1) (ci := 0) (v := .ref (E.2.1 3)) (C := "BlockPictures") (T := bF_BP) (N := 7) hx hb htb bc_in_BP hown hK hP 0 (bc_gBP E m1) rfl 2 (by decide) (htb _ tw_361) (fun _ h9 => h9) rfl (dt_bc_BP_takePicture 79 rfl) ?_
        refine va_get (D := E.1) (ci := 3) (v := .int (m1.1 3 5)) (C := "BlockPictures$PictureDecoder") (T := bF_PD) (N := 11) hx hb htb bc_in_PD hown hK hP 3 (bc_gPD E m1) rfl 5 (by decide) (htb _ tw_270) (fun _ h9 => h9) rfl (dt_bc_BP_takePicture 80 rfl) ?_
        obtain ⟨m2, hm2, h⟩ := bp_cV_s h
        refine bc_callV E hsub hS (va_runV (As := [.int (m1.1 3 5)]) (rest := []) ⟨hx, hb, hml, hown, htb⟩ (wbc_PB_release l E N (m1.1 3 5) m1 H.size m2 hm2) (cwV 1 htb (bp_goodV tw_611 tw_612 tw_613 tw_77 tw_614) rfl rfl rfl ⟨rfl, hd_bc_PB_release⟩ ⟨Nat.le_of_ble_eq_true rfl, Nat.le_of_ble_eq_true rfl⟩) (bc_preV E hsub hst hK hP hD hS (bc_gPB E m1) rfl rfl _) rfl rfl hl.1 rfl (lv_room (Nat.le_of_ble_eq_true rfl)) (dt_bc_BP_takePicture 81 rfl) ⟨Nat.zero_le _, Nat.zero_le _⟩) (fun H locs hP hD hS => ?_)
        exact hL182 _ h ls H locs (lv_sub hl [0] rfl) hP hD hS
      · replace h := (if_neg hc).symm.trans h
        refine lv_aload_n hx hb (dt_bc_BP_takePicture 63 rfl) rfl (lv_at hl 0 rfl) ?_
        refine va_get (D := E.1) (ci := 0) (v := .ref (E.2.1 2)) (C := "BlockPictures") (T := bF_BP) (N := 7) hx hb htb bc_in_BP hown hK hP 0 (bc_gBP E m1) rfl 1 (by decide) (htb _ tw_360) (fun _ h9 => h9) rfl (dt_bc_BP_takePicture 64 rfl) ?_
        obtain ⟨m3, hm3, h⟩ := bp_cV_s h
        refine bc_callV E hsub hS (va_runV (As := []) (rest := []) ⟨hx, hb, hml, hown, htb⟩ (wbc_PA_takePending l E N  m1 H.size m3 hm3) (cwV 0 htb (bp_goodV tw_590 tw_591 tw_592 tw_71 tw_593) rfl rfl rfl ⟨rfl, hd_bc_PA_takePending⟩ ⟨Nat.le_of_ble_eq_true rfl, Nat.le_of_ble_eq_true rfl⟩) (bc_preV E hsub hst hK hP hD hS (bc_gPA E m1) rfl rfl _) rfl rfl hl.1 rfl (lv_room (Nat.le_of_ble_eq_true rfl)) (dt_bc_BP_takePicture 65 rfl) ⟨Nat.zero_le _, Nat.zero_le _⟩) (fun H locs hP hD hS => ?_)
        refine lv_aload_n hx hb (dt_bc_BP_takePicture 66 rfl) rfl (lv_at hl 0 rfl) ?_
        refine va_get (D := E.1) (ci := 0) (v := .ref (E.2.1 4)) (C := "BlockPictures") (T := bF_BP) (N := 7) hx hb htb bc_in_BP hown hK hP 0 (bc_gBP E m3) rfl 3 (by decide) (htb _ tw_362) (fun _ h9 => h9) rfl (dt_bc_BP_takePicture 67 rfl) ?_
        obtain ⟨m4, hm4, h⟩ := bp_cV_s h
        refine bc_callV E hsub hS (va_runV (As := []) (rest := []) ⟨hx, hb, hml, hown, htb⟩ (wbc_PB_showAll l E N  m3 H.size m4 hm4) (cwV 0 htb (bp_goodV tw_594 tw_595 tw_596 tw_77 tw_597) rfl rfl rfl ⟨rfl, hd_bc_PB_showAll⟩ ⟨Nat.le_of_ble_eq_true rfl, Nat.le_of_ble_eq_true rfl⟩) (bc_preV E hsub hst hK hP hD hS (bc_gPB E m3) rfl rfl _) rfl rfl hl.1 rfl (lv_room (Nat.le_of_ble_eq_true rfl)) (dt_bc_BP_takePicture 68 rfl) ⟨Nat.zero_le _, Nat.zero_le _⟩) (fun H locs hP hD hS => ?_)
        refine lv_aload_n hx hb (dt_bc_BP_takePicture 69 rfl) rfl (lv_at hl 0 rfl) ?_
        refine va_get (D := E.1) (ci := 0) (v := .ref (E.2.1 4)) (C := "BlockPictures") (T := bF_BP) (N := 7) hx hb htb bc_in_BP hown hK hP 0 (bc_gBP E m4) rfl 3 (by decide) (htb _ tw_362) (fun _ h9 => h9) rfl (dt_bc_BP_takePicture 70 rfl) ?_
        refine lv_aload_n hx hb (dt_bc_BP_takePicture 71 rfl) rfl (lv_at hl 0 rfl) ?_
        refine va_get (D := E.1) (ci := 0) (v := .ref (E.2.1 2)) (C := "BlockPictures") (T := bF_BP) (N := 7) hx hb htb bc_in_BP hown hK hP 0 (bc_gBP E m4) rfl 1 (by decide) (htb _ tw_360) (fun _ h9 => h9) rfl (dt_bc_BP_takePicture 72 rfl) ?_
        refine va_get (D := E.1) (ci := 2) (v := .int (m4.1 2 4)) (C := "BlockPictures$Parameters") (T := bF_PA) (N := 6) hx hb htb bc_in_PA hown hK hP 2 (bc_gPA E m4) rfl 4 (by decide) (htb _ tw_134) (fun _ h9 => h9) rfl (dt_bc_BP_takePicture 73 rfl) ?_
        refine bc_pPB_2 E hx hb htb hown hK hP hD hS (htb _ tw_312) (dt_bc_BP_takePicture 74 rfl) (fun m5 em5 H locs hP hD hS => ?_)
        replace h := bp_nM_s h em5
        refine lv_goto (tgt := 182) hx hb (dt_bc_BP_takePicture 75 rfl) (by decide) ?_
        exact hL182 _ h ls H locs (lv_sub hl [0] rfl) hP hD hS
    · replace h := (if_neg hc).symm.trans h
      exact hret _ _ _ _ _ h hP hD hS (dt_bc_BP_takePicture 57 rfl)
  have hL82 : ∀ (m : bp_M), bc_BP_takePicture_L82 N a1 a2 m = some mr → ∀ (ls : Array Slot) (H : Heap) (locs : List Loc), lv_has ls 4 [(0, .ref (E.2.1 0)), (1, .int a1), (2, .int a2), (3, .ref (E.2.1 6))] → va_P E.1 bp_cl (bc_W E m) H → va_D A (bc_W E m) → va_S A s.heap H locs → W p l e ({ frames := 4, cells := 0, slots := 0, locals := 123 }) s mt args below meth c H locs 0 0 Q (F0 mt 82 ls []) := by
    intro m h ls H locs hl hP hD hS
    rw [bc_BP_takePicture_L82] at h
    refine lv_aload_n hx hb (dt_bc_BP_takePicture 36 rfl) rfl (lv_at hl 3 rfl) ?_
    refine va_get (D := E.1) (ci := 6) (v := .int (m.1 6 3)) (C := "BlockPictures$BitReader") (T := bF_BR) (N := 4) hx hb htb bc_in_BR hown hK hP 6 (bc_gBR E m) rfl 3 (by decide) (htb _ tw_167) (fun _ h9 => h9) rfl (dt_bc_BP_takePicture 37 rfl) ?_
    refine lv_if_ne (tgt := 118) hx hb (dt_bc_BP_takePicture 38 rfl) (by decide) (fun hc => ?_) (fun hc => ?_)
    · replace h := (if_pos hc).symm.trans h
      exact hL118 _ h ls H locs (lv_sub hl [0, 1, 3] rfl) hP hD hS
    · replace h := (if_neg (fun hn => hn hc)).symm.trans h
      refine lv_aload_n hx hb (dt_bc_BP_takePicture 39 rfl) rfl (lv_at hl 0 rfl) ?_
      refine va_get (D := E.1) (ci := 0) (v := .ref (E.2.1 3)) (C := "BlockPictures") (T := bF_BP) (N := 7) hx hb htb bc_in_BP hown hK hP 0 (bc_gBP E m) rfl 2 (by decide) (htb _ tw_361) (fun _ h9 => h9) rfl (dt_bc_BP_takePicture 40 rfl) ?_
      refine lv_iload_n hx hb (dt_bc_BP_takePicture 41 rfl) rfl (lv_at hl 1 rfl) ?_
      refine lv_iload_n hx hb (dt_bc_BP_takePicture 42 rfl) rfl (lv_at hl 2 rfl) ?_
      refine lv_aload_n hx hb (dt_bc_BP_takePicture 43 rfl) rfl (lv_at hl 0 rfl) ?_
      refine va_get (D := E.1) (ci := 0) (v := .ref (E.2.1 2)) (C := "BlockPictures") (T := bF_BP) (N := 7) hx hb htb bc_in_BP hown hK hP 0 (bc_gBP E m) rfl 1 (by decide) (htb _ tw_360) (fun _ h9 => h9) rfl (dt_bc_BP_takePicture 44 rfl) ?_
      refine lv_iload_n hx hb (dt_bc_BP_takePicture 45 rfl) rfl (lv_at hl 1 rfl) ?_
      obtain ⟨z2, m1, hm1, h⟩ := bp_cI_s h
      refine bc_callI E hsub hS (va_runV (As := [.int a1]) (rest := [.int a2, .int a1, .ref (E.2.1 3)]) ⟨hx, hb, hml, hown, htb⟩ (wbc_PA_baseFor l E N a1 m H.size z2 m1 hm1) (cwV 1 htb (bp_goodV tw_453 tw_454 tw_455 tw_71 tw_456) rfl rfl rfl ⟨rfl, hd_bc_PA_baseFor⟩ ⟨Nat.le_of_ble_eq_true rfl, Nat.le_of_ble_eq_true rfl⟩) (bc_preV E hsub hst hK hP hD hS (bc_gPA E m) rfl rfl _) rfl rfl hl.1 rfl (lv_room (Nat.le_of_ble_eq_true rfl)) (dt_bc_BP_takePicture 46 rfl) ⟨Nat.zero_le _, Nat.zero_le _⟩) (fun H locs hP hD hS => ?_)
      obtain ⟨m3, hm3, h⟩ := bp_cV_s h
      refine bc_callV E hsub hS (va_runV (As := [.int a1, .int a2, .int z2]) (rest := []) ⟨hx, hb, hml, hown, htb⟩ (wbc_PD_readHeader l E N a1 a2 z2 m1 H.size m3 hm3) (cwV 3 htb (bp_goodV tw_457 tw_458 tw_459 tw_72 tw_460) rfl rfl rfl ⟨rfl, hd_bc_PD_readHeader⟩ ⟨Nat.le_of_ble_eq_true rfl, Nat.le_of_ble_eq_true rfl⟩) (bc_preV E hsub hst hK hP hD hS (bc_gPD E m1) rfl rfl _) rfl rfl hl.1 rfl (lv_room (Nat.le_of_ble_eq_true rfl)) (dt_bc_BP_takePicture 47 rfl) ⟨Nat.zero_le _, Nat.zero_le _⟩) (fun H locs hP hD hS => ?_)
      refine lv_aload_n hx hb (dt_bc_BP_takePicture 48 rfl) rfl (lv_at hl 0 rfl) ?_
      refine va_get (D := E.1) (ci := 0) (v := .ref (E.2.1 3)) (C := "BlockPictures") (T := bF_BP) (N := 7) hx hb htb bc_in_BP hown hK hP 0 (bc_gBP E m3) rfl 2 (by decide) (htb _ tw_361) (fun _ h9 => h9) rfl (dt_bc_BP_takePicture 49 rfl) ?_
      refine lv_iload_n hx hb (dt_bc_BP_takePicture 50 rfl) rfl (lv_at hl 1 rfl) ?_
      obtain ⟨m4, hm4, h⟩ := bp_cV_s h
      refine bc_callV E hsub hS (va_runV (As := [.int a1]) (rest := []) ⟨hx, hb, hml, hown, htb⟩ (wbc_PD_readBlocks l E N a1 m3 H.size m4 hm4) (cwV 1 htb (bp_goodV tw_478 tw_479 tw_480 tw_72 tw_481) rfl rfl rfl ⟨rfl, hd_bc_PD_readBlocks⟩ ⟨Nat.le_of_ble_eq_true rfl, Nat.le_of_ble_eq_true rfl⟩) (bc_preV E hsub hst hK hP hD hS (bc_gPD E m3) rfl rfl _) rfl rfl hl.1 rfl (lv_room (Nat.le_of_ble_eq_true rfl)) (dt_bc_BP_takePicture 51 rfl) ⟨Nat.zero_le _, Nat.zero_le _⟩) (fun H locs hP hD hS => ?_)
      refine lv_aload_n hx hb (dt_bc_BP_takePicture 52 rfl) rfl (lv_at hl 3 rfl) ?_
      obtain ⟨m5, hm5, h⟩ := bp_cV_s h
      refine bc_callV E hsub hS (va_runV (As := []) (rest := []) ⟨hx, hb, hml, hown, htb⟩ (wbc_BR_needEnd l E N  m4 H.size m5 hm5) (cwV 0 htb (bp_goodV tw_567 tw_442 tw_443 tw_73 tw_444) rfl rfl rfl ⟨rfl, hd_bc_BR_needEnd⟩ ⟨Nat.le_of_ble_eq_true rfl, Nat.le_of_ble_eq_true rfl⟩) (bc_preV E hsub hst hK hP hD hS (bc_gBR E m4) rfl rfl _) rfl rfl hl.1 rfl (lv_room (Nat.le_of_ble_eq_true rfl)) (dt_bc_BP_takePicture 53 rfl) ⟨Nat.zero_le _, Nat.zero_le _⟩) (fun H locs hP hD hS => ?_)
      exact hL118 _ h ls H locs (lv_sub hl [0, 1, 3] rfl) hP hD hS
  have hL62 : ∀ (m : bp_M), bc_BP_takePicture_L62 N a1 a2 m = some mr → ∀ (ls : Array Slot) (H : Heap) (locs : List Loc), lv_has ls 4 [(0, .ref (E.2.1 0)), (1, .int a1), (2, .int a2), (3, .ref (E.2.1 6))] → va_P E.1 bp_cl (bc_W E m) H → va_D A (bc_W E m) → va_S A s.heap H locs → W p l e ({ frames := 4, cells := 0, slots := 0, locals := 123 }) s mt args below meth c H locs 0 0 Q (F0 mt 62 ls []) := by
    intro m h ls H locs hl hP hD hS
    rw [bc_BP_takePicture_L62] at h
    refine lv_iload_n hx hb (dt_bc_BP_takePicture 27 rfl) rfl (lv_at hl 1 rfl) ?_
    refine lv_if_ne (tgt := 82) hx hb (dt_bc_BP_takePicture 28 rfl) (by decide) (fun hc => ?_) (fun hc => ?_)
    · replace h := (if_pos hc).symm.trans h
      exact hL82 _ h ls H locs (lv_sub hl [0, 1, 2, 3] rfl) hP hD hS
    · replace h := (if_neg (fun hn => hn hc)).symm.trans h
      refine lv_aload_n hx hb (dt_bc_BP_takePicture 29 rfl) rfl (lv_at hl 0 rfl) ?_
      refine va_get (D := E.1) (ci := 0) (v := .ref (E.2.1 3)) (C := "BlockPictures") (T := bF_BP) (N := 7) hx hb htb bc_in_BP hown hK hP 0 (bc_gBP E m) rfl 2 (by decide) (htb _ tw_361) (fun _ h9 => h9) rfl (dt_bc_BP_takePicture 30 rfl) ?_
      refine va_get (D := E.1) (ci := 3) (v := .int (m.1 3 4)) (C := "BlockPictures$PictureDecoder") (T := bF_PD) (N := 11) hx hb htb bc_in_PD hown hK hP 3 (bc_gPD E m) rfl 4 (by decide) (htb _ tw_268) (fun _ h9 => h9) rfl (dt_bc_BP_takePicture 31 rfl) ?_
      refine lv_if_ne (tgt := 82) hx hb (dt_bc_BP_takePicture 32 rfl) (by decide) (fun hc => ?_) (fun hc => ?_)
      · replace h := (if_pos hc).symm.trans h
        exact hL82 _ h ls H locs (lv_sub hl [0, 1, 2, 3] rfl) hP hD hS
      · replace h := (if_neg (fun hn => hn hc)).symm.trans h
        refine lv_aload_n hx hb (dt_bc_BP_takePicture 33 rfl) rfl (lv_at hl 3 rfl) ?_
        refine lv_bipush (v := 8) hx hb (dt_bc_BP_takePicture 34 rfl) (by decide) ?_
        obtain ⟨m1, hm1, h⟩ := bp_cV_s h
        refine bc_callV E hsub hS (va_runV (As := [.int 8]) (rest := []) ⟨hx, hb, hml, hown, htb⟩ (wbc_BR_fail l E N 8 m H.size m1 hm1) (cwV 1 htb (bp_goodV tw_420 tw_421 tw_422 tw_73 tw_423) rfl rfl rfl ⟨rfl, hd_bc_BR_fail⟩ ⟨Nat.le_of_ble_eq_true rfl, Nat.le_of_ble_eq_true rfl⟩) (bc_preV E hsub hst hK hP hD hS (bc_gBR E m) rfl rfl _) rfl rfl hl.1 rfl (lv_room (Nat.le_of_ble_eq_true rfl)) (dt_bc_BP_takePicture 35 rfl) ⟨Nat.zero_le _, Nat.zero_le _⟩) (fun H locs hP hD hS => ?_)
        exact hL82 _ h ls H locs (lv_sub hl [0, 1, 2, 3] rfl) hP hD hS
  suffices hgo : ∀ (H : Heap) (locs : List Loc), va_P E.1 bp_cl (bc_W E m) H → va_D A (bc_W E m) → va_S A s.heap H locs → W p l e ({ frames := 4, cells := 0, slots := 0, locals := 123 }) s mt args below meth c H locs 0 0 Q (F0 mt 0 ls []) from hgo _ _ hP hD hS
  clear hP hD hS
  intro H locs hP hD hS
  unfold bc_BP_takePicture at h
  refine lv_aload_n hx hb (dt_bc_BP_takePicture 0 rfl) rfl (lv_at hl 0 rfl) ?_
  refine va_get (D := E.1) (ci := 0) (v := .ref (E.2.1 3)) (C := "BlockPictures") (T := bF_BP) (N := 7) hx hb htb bc_in_BP hown hK hP 0 (bc_gBP E m) rfl 2 (by decide) (htb _ tw_361) (fun _ h9 => h9) rfl (dt_bc_BP_takePicture 1 rfl) ?_
  refine va_get (D := E.1) (ci := 3) (v := .ref (E.2.1 6)) (C := "BlockPictures$PictureDecoder") (T := bF_PD) (N := 11) hx hb htb bc_in_PD hown hK hP 3 (bc_gPD E m) rfl 0 (by decide) (htb _ tw_260) (fun _ h9 => h9) rfl (dt_bc_BP_takePicture 2 rfl) ?_
  refine lv_astore_n hx hb (dt_bc_BP_takePicture 3 rfl) rfl hl (Nat.le_of_ble_eq_true rfl) rfl (fun ls hl => ?_)
  have hl : lv_has ls 4 [(3, .ref (E.2.1 6)), (0, .ref (E.2.1 0)), (1, .int a1), (2, .int a2)] := hl
  refine lv_aload_n hx hb (dt_bc_BP_takePicture 4 rfl) rfl (lv_at hl 1 rfl) ?_
  refine va_get (D := E.1) (ci := 0) (v := .ref (E.2.1 3)) (C := "BlockPictures") (T := bF_BP) (N := 7) hx hb htb bc_in_BP hown hK hP 0 (bc_gBP E m) rfl 2 (by decide) (htb _ tw_361) (fun _ h9 => h9) rfl (dt_bc_BP_takePicture 5 rfl) ?_
  refine lv_aload_n hx hb (dt_bc_BP_takePicture 6 rfl) rfl (lv_at hl 1 rfl) ?_
  refine va_get (D := E.1) (ci := 0) (v := .ref (E.2.1 4)) (C := "BlockPictures") (T := bF_BP) (N := 7) hx hb htb bc_in_BP hown hK hP 0 (bc_gBP E m) rfl 3 (by decide) (htb _ tw_362) (fun _ h9 => h9) rfl (dt_bc_BP_takePicture 7 rfl) ?_
  refine lv_aload_n hx hb (dt_bc_BP_takePicture 8 rfl) rfl (lv_at hl 1 rfl) ?_
  refine va_get (D := E.1) (ci := 0) (v := .ref (E.2.1 3)) (C := "BlockPictures") (T := bF_BP) (N := 7) hx hb htb bc_in_BP hown hK hP 0 (bc_gBP E m) rfl 2 (by decide) (htb _ tw_361) (fun _ h9 => h9) rfl (dt_bc_BP_takePicture 9 rfl) ?_
  refine va_get (D := E.1) (ci := 3) (v := .ref (E.2.1 39)) (C := "BlockPictures$PictureDecoder") (T := bF_PD) (N := 11) hx hb htb bc_in_PD hown hK hP 3 (bc_gPD E m) rfl 3 (by decide) (htb _ tw_266) (fun _ h9 => h9) rfl (dt_bc_BP_takePicture 10 rfl) ?_
  obtain ⟨z2, m1, hm1, h⟩ := bp_cI_s h
  refine bc_callI E hsub hS (va_runV (As := [.ref (E.2.1 39)]) (rest := [.ref (E.2.1 3)]) ⟨hx, hb, hml, hown, htb⟩ (wbc_PB_listReferences l E N  m H.size z2 m1 hm1) (cwV 1 htb (bp_goodV tw_449 tw_450 tw_451 tw_77 tw_452) rfl rfl rfl ⟨rfl, hd_bc_PB_listReferences⟩ ⟨Nat.le_of_ble_eq_true rfl, Nat.le_of_ble_eq_true rfl⟩) (bc_preV E hsub hst hK hP hD hS (bc_gPB E m) rfl rfl _) rfl rfl hl.1 rfl (lv_room (Nat.le_of_ble_eq_true rfl)) (dt_bc_BP_takePicture 11 rfl) ⟨Nat.zero_le _, Nat.zero_le _⟩) (fun H locs hP hD hS => ?_)
  refine bc_pPD_4 E hx hb htb hown hK hP hD hS (htb _ tw_268) (dt_bc_BP_takePicture 12 rfl) (fun m3 em3 H locs hP hD hS => ?_)
  replace h := bp_nM_s h em3
  refine lv_iload_n hx hb (dt_bc_BP_takePicture 13 rfl) rfl (lv_at hl 2 rfl) ?_
  refine lv_if_eq (tgt := 62) hx hb (dt_bc_BP_takePicture 14 rfl) (by decide) (fun hc => ?_) (fun hc => ?_)
  · replace h := (if_pos hc).symm.trans h
    exact hL62 _ h ls H locs (lv_sub hl [1, 2, 3, 0] rfl) hP hD hS
  · replace h := (if_neg hc).symm.trans h
    refine lv_aload_n hx hb (dt_bc_BP_takePicture 15 rfl) rfl (lv_at hl 1 rfl) ?_
    refine va_get (D := E.1) (ci := 0) (v := .ref (E.2.1 2)) (C := "BlockPictures") (T := bF_BP) (N := 7) hx hb htb bc_in_BP hown hK hP 0 (bc_gBP E m3) rfl 1 (by decide) (htb _ tw_360) (fun _ h9 => h9) rfl (dt_bc_BP_takePicture 16 rfl) ?_
    refine va_get (D := E.1) (ci := 2) (v := .int (m3.1 2 0)) (C := "BlockPictures$Parameters") (T := bF_PA) (N := 6) hx hb htb bc_in_PA hown hK hP 2 (bc_gPA E m3) rfl 0 (by decide) (htb _ tw_128) (fun _ h9 => h9) rfl (dt_bc_BP_takePicture 17 rfl) ?_
    refine lv_if_ne (tgt := 62) hx hb (dt_bc_BP_takePicture 18 rfl) (by decide) (fun hc => ?_) (fun hc => ?_)
    · replace h := (if_pos hc).symm.trans h
      exact hL62 _ h ls H locs (lv_sub hl [1, 2, 3, 0] rfl) hP hD hS
    · replace h := (if_neg (fun hn => hn hc)).symm.trans h
      refine lv_aload_n hx hb (dt_bc_BP_takePicture 19 rfl) rfl (lv_at hl 1 rfl) ?_
      refine va_get (D := E.1) (ci := 0) (v := .ref (E.2.1 2)) (C := "BlockPictures") (T := bF_BP) (N := 7) hx hb htb bc_in_BP hown hK hP 0 (bc_gBP E m3) rfl 1 (by decide) (htb _ tw_360) (fun _ h9 => h9) rfl (dt_bc_BP_takePicture 20 rfl) ?_
      refine va_get (D := E.1) (ci := 2) (v := .int (m3.1 2 3)) (C := "BlockPictures$Parameters") (T := bF_PA) (N := 6) hx hb htb bc_in_PA hown hK hP 2 (bc_gPA E m3) rfl 3 (by decide) (htb _ tw_132) (fun _ h9 => h9) rfl (dt_bc_BP_takePicture 21 rfl) ?_
      refine lv_if_ne (tgt := 62) hx hb (dt_bc_BP_takePicture 22 rfl) (by decide) (fun hc => ?_) (fun hc => ?_)
      · replace h := (if_pos hc).symm.trans h
        exact hL62 _ h ls H locs (lv_sub hl [1, 2, 3, 0] rfl) hP hD hS
      · replace h := (if_neg (fun hn => hn hc)).symm.trans h
        refine lv_aload_n hx hb (dt_bc_BP_takePicture 23 rfl) rfl (lv_at hl 0 rfl) ?_
        refine lv_bipush (v := 7) hx hb (dt_bc_BP_takePicture 24 rfl) (by decide) ?_
        obtain ⟨m4, hm4, h⟩ := bp_cV_s h
        refine bc_callV E hsub hS (va_runV (As := [.int 7]) (rest := []) ⟨hx, hb, hml, hown, htb⟩ (wbc_BR_fail l E N 7 m3 H.size m4 hm4) (cwV 1 htb (bp_goodV tw_420 tw_421 tw_422 tw_73 tw_423) rfl rfl rfl ⟨rfl, hd_bc_BR_fail⟩ ⟨Nat.le_of_ble_eq_true rfl, Nat.le_of_ble_eq_true rfl⟩) (bc_preV E hsub hst hK hP hD hS (bc_gBR E m3) rfl rfl _) rfl rfl hl.1 rfl (lv_room (Nat.le_of_ble_eq_true rfl)) (dt_bc_BP_takePicture 25 rfl) ⟨Nat.zero_le _, Nat.zero_le _⟩) (fun H locs hP hD hS => ?_)
        refine lv_goto (tgt := 82) hx hb (dt_bc_BP_takePicture 26 rfl) (by decide) ?_
        exact hL82 _ h ls H locs (lv_sub hl [1, 2, 3, 0] rfl) hP hD hS
set_option maxHeartbeats 4000000 in
set_option maxRecDepth 100000 in
theorem wbc_BP_workThrough (l : Launch) (E : bc_E) (N : Nat)  (m : bp_M) (sz : Nat) (mr : bp_M)  (h : bc_BP_workThrough N m = some mr) : Met l y_bc_BP_workThrough (Cond.code y_bc_BP_workThrough prog_1_method_20_code 4 none :: bp_tb) ({ frames := 5, cells := 0, slots := 0, locals := 146 }) (bc_Pc E m sz [.ref (E.2.1 0)]) (bc_Qv E m sz mr) 0 0 (va_A (bc_W E m) sz) := by
  refine Met.ofW (cc := prog_1_method_20_code) (maxL := 4) (ret := none) (by decide) rfl ?_
  intro p e s mt args below meth c s₁ B hml hv
  obtain ⟨rfl, hsz, hP, hK, hD0, hst⟩ := hv
  have hx := B.exec
  have hb := B.bytes
  have hr := B.returns
  have htb : ∀ w ∈ bp_tb, w.before _ s = true := fun w hw => atoms_spec (ws := Cond.code y_bc_BP_workThrough prog_1_method_20_code 4 none :: bp_tb) B.pre w (List.mem_cons_of_mem _ hw)
  have hown : s.vm.findClass "BlockPictures" = some mt.cls := findClass_of_methodNamed B.named
  have hlocks := B.notSynchronized
  subst hsz
  have hD := hD0.self (sz := s.heap.size)
  generalize hAe : va_A (bc_W E m) s.heap.size = A at hD hst ⊢
  have hsub : ∀ (u : bp_M) (z q : Nat), s.heap.size ≤ z → va_A (bc_W E u) z q → A q := bc_sub hAe
  have hS : va_S A s.heap s.heap [] := va_S.rf
  have hl := lv_entry ([.ref (E.2.1 0)]) (n := 4) (Nat.le_of_ble_eq_true rfl)
  rw [lg_entry_eq]
  generalize (lg_sl ([.ref (E.2.1 0)]) ++ List.replicate (4 - (lg_sl ([.ref (E.2.1 0)])).length) Slot.unset).toArray = ls at hl ⊢
  have hl : lv_has ls 4 [(0, .ref (E.2.1 0))] := hl
  refine bc_keyV (R := ({ frames := 5, cells := 0, slots := 0, locals := 146 })) E hx hb hr hlocks hK hAe (fun Q hret => ?_)
  clear B hD0 hlocks hr
  generalize ([.ref (E.2.1 0)] : List Value).toArray = args at htb hret ⊢
  clear hAe
  have hL134 : ∀ (m : bp_M), bc_BP_workThrough_L134 N m = some mr → ∀ (ls : Array Slot) (H : Heap) (locs : List Loc), lv_has ls 4 [] → va_P E.1 bp_cl (bc_W E m) H → va_D A (bc_W E m) → va_S A s.heap H locs → W p l e ({ frames := 5, cells := 0, slots := 0, locals := 146 }) s mt args below meth c H locs 0 0 Q (F0 mt 134 ls []) := by
    intro m h ls H locs hl hP hD hS
    rw [bc_BP_workThrough_L134] at h
    exact hret _ _ _ _ _ h hP hD hS (dt_bc_BP_workThrough 73 rfl)
  have hL109 : ∀ (m : bp_M), bc_BP_workThrough_L109 N m = some mr → ∀ (ls : Array Slot) (H : Heap) (locs : List Loc), lv_has ls 4 [(0, .ref (E.2.1 0)), (3, .ref (E.2.1 6))] → va_P E.1 bp_cl (bc_W E m) H → va_D A (bc_W E m) → va_S A s.heap H locs → W p l e ({ frames := 5, cells := 0, slots := 0, locals := 146 }) s mt args below meth c H locs 0 0 Q (F0 mt 109 ls []) := by
    intro m h ls H locs hl hP hD hS
    rw [bc_BP_workThrough_L109] at h
    refine lv_aload_n hx hb (dt_bc_BP_workThrough 60 rfl) rfl (lv_at hl 0 rfl) ?_
    refine lv_aload_n hx hb (dt_bc_BP_workThrough 61 rfl) rfl (lv_at hl 1 rfl) ?_
    refine va_get (D := E.1) (ci := 6) (v := .int (m.1 6 3)) (C := "BlockPictures$BitReader") (T := bF_BR) (N := 4) hx hb htb bc_in_BR hown hK hP 6 (bc_gBR E m) rfl 3 (by decide) (htb _ tw_167) (fun _ h9 => h9) rfl (dt_bc_BP_workThrough 62 rfl) ?_
    refine bc_pBP_5 E hx hb htb hown hK hP hD hS (htb _ tw_364) (dt_bc_BP_workThrough 63 rfl) (fun m1 em1 H locs hP hD hS => ?_)
    replace h := bp_nM_s h em1
    refine lv_aload_n hx hb (dt_bc_BP_workThrough 64 rfl) rfl (lv_at hl 0 rfl) ?_
    refine va_get (D := E.1) (ci := 0) (v := .int (m1.1 0 5)) (C := "BlockPictures") (T := bF_BP) (N := 7) hx hb htb bc_in_BP hown hK hP 0 (bc_gBP E m1) rfl 5 (by decide) (htb _ tw_364) (fun _ h9 => h9) rfl (dt_bc_BP_workThrough 65 rfl) ?_
    refine lv_if_ne (tgt := 134) hx hb (dt_bc_BP_workThrough 66 rfl) (by decide) (fun hc => ?_) (fun hc => ?_)
    · replace h := (if_pos hc).symm.trans h
      exact hL134 _ h ls H locs (lv_sub hl [] rfl) hP hD hS
    · replace h := (if_neg (fun hn => hn hc)).symm.trans h
      refine lv_aload_n hx hb (dt_bc_BP_workThrough 67 rfl) rfl (lv_at hl 0 rfl) ?_
      refine lv_dup hx hb (dt_bc_BP_workThrough 68 rfl) rfl ?_
      refine va_get (D := E.1) (ci := 0) (v := .int (m1.1 0 6)) (C := "BlockPictures") (T := bF_BP) (N := 7) hx hb htb bc_in_BP hown hK hP 0 (bc_gBP E m1) rfl 6 (by decide) (htb _ tw_365) (fun _ h9 => h9) rfl (dt_bc_BP_workThrough 69 rfl) ?_
      refine lv_iconst (v := 1) hx hb (dt_bc_BP_workThrough 70 rfl) (by decide) ?_
      refine lv_iadd hx hb (dt_bc_BP_workThrough 71 rfl) ?_
      refine bc_pBP_6 E hx hb htb hown hK hP hD hS (htb _ tw_365) (dt_bc_BP_workThrough 72 rfl) (fun m2 em2 H locs hP hD hS => ?_)
      replace h := bp_nM_s h em2
      exact hL134 _ h ls H locs (lv_sub hl [] rfl) hP hD hS
  have hL101 : ∀ (x1 : Int32) (s0 : Int32) (m : bp_M), bc_BP_workThrough_L101 N x1 s0 m = some mr → ∀ (ls : Array Slot) (H : Heap) (locs : List Loc), lv_has ls 4 [(0, .ref (E.2.1 0)), (1, .int x1), (3, .ref (E.2.1 6))] → va_P E.1 bp_cl (bc_W E m) H → va_D A (bc_W E m) → va_S A s.heap H locs → W p l e ({ frames := 5, cells := 0, slots := 0, locals := 146 }) s mt args below meth c H locs 0 0 Q (F0 mt 101 ls [.int s0, .ref (E.2.1 0)]) := by
    intro x1 s0 m h ls H locs hl hP hD hS
    rw [bc_BP_workThrough_L101] at h
    refine lv_iload_n hx hb (dt_bc_BP_workThrough 54 rfl) rfl (lv_at hl 1 rfl) ?_
    refine lv_iconst (v := 5) hx hb (dt_bc_BP_workThrough 55 rfl) (by decide) ?_
    refine lv_ishr hx hb (dt_bc_BP_workThrough 56 rfl) ?_
    refine lv_iconst (v := 3) hx hb (dt_bc_BP_workThrough 57 rfl) (by decide) ?_
    refine lv_iand hx hb (dt_bc_BP_workThrough 58 rfl) ?_
    obtain ⟨m1, hm1, h⟩ := bp_cV_s h
    refine bc_callV E hsub hS (va_runV (As := [.int s0, .int ((x1 >>> (5 &&& 31 : Int32) : Int32) &&& 3 : Int32)]) (rest := []) ⟨hx, hb, hml, hown, htb⟩ (wbc_BP_takePicture l E N s0 ((x1 >>> (5 &&& 31 : Int32) : Int32) &&& 3 : Int32) m H.size m1 hm1) (cwV 2 htb (bp_goodV tw_445 tw_447 tw_7 tw_69 tw_448) rfl rfl rfl ⟨rfl, hd_bc_BP_takePicture⟩ ⟨Nat.le_of_ble_eq_true rfl, Nat.le_of_ble_eq_true rfl⟩) (bc_preV E hsub hst hK hP hD hS (bc_gBP E m) rfl rfl _) rfl rfl hl.1 rfl (lv_room (Nat.le_of_ble_eq_true rfl)) (dt_bc_BP_workThrough 59 rfl) ⟨Nat.zero_le _, Nat.zero_le _⟩) (fun H locs hP hD hS => ?_)
    exact hL109 _ h ls H locs (lv_sub hl [0, 2] rfl) hP hD hS
  have hL86 : ∀ (x1 : Int32) (x2 : Int32) (m : bp_M), bc_BP_workThrough_L86 N x1 x2 m = some mr → ∀ (ls : Array Slot) (H : Heap) (locs : List Loc), lv_has ls 4 [(0, .ref (E.2.1 0)), (1, .int x1), (2, .int x2), (3, .ref (E.2.1 6))] → va_P E.1 bp_cl (bc_W E m) H → va_D A (bc_W E m) → va_S A s.heap H locs → W p l e ({ frames := 5, cells := 0, slots := 0, locals := 146 }) s mt args below meth c H locs 0 0 Q (F0 mt 86 ls []) := by
    intro x1 x2 m h ls H locs hl hP hD hS
    rw [bc_BP_workThrough_L86] at h
    refine lv_aload_n hx hb (dt_bc_BP_workThrough 45 rfl) rfl (lv_at hl 3 rfl) ?_
    obtain ⟨m1, hm1, h⟩ := bp_cV_s h
    refine bc_callV E hsub hS (va_runV (As := []) (rest := []) ⟨hx, hb, hml, hown, htb⟩ (wbc_BR_needMark l E N  m H.size m1 hm1) (cwV 0 htb (bp_goodV tw_424 tw_425 tw_426 tw_73 tw_427) rfl rfl rfl ⟨rfl, hd_bc_BR_needMark⟩ ⟨Nat.le_of_ble_eq_true rfl, Nat.le_of_ble_eq_true rfl⟩) (bc_preV E hsub hst hK hP hD hS (bc_gBR E m) rfl rfl _) rfl rfl hl.1 rfl (lv_room (Nat.le_of_ble_eq_true rfl)) (dt_bc_BP_workThrough 46 rfl) ⟨Nat.zero_le _, Nat.zero_le _⟩) (fun H locs hP hD hS => ?_)
    refine lv_aload_n hx hb (dt_bc_BP_workThrough 47 rfl) rfl (lv_at hl 0 rfl) ?_
    refine lv_iload_n hx hb (dt_bc_BP_workThrough 48 rfl) rfl (lv_at hl 2 rfl) ?_
    refine lv_iconst (v := 5) hx hb (dt_bc_BP_workThrough 49 rfl) (by decide) ?_
    refine lv_icmp_ne (tgt := 100) hx hb (dt_bc_BP_workThrough 50 rfl) (by decide) (fun hc => ?_) (fun hc => ?_)
    · replace h := (if_pos hc).symm.trans h
      refine lv_iconst (v := 0) hx hb (dt_bc_BP_workThrough 53 rfl) (by decide) ?_
      exact hL101 _ _ _ h ls H locs (lv_sub hl [0, 1, 3] rfl) hP hD hS
    · replace h := (if_neg (fun hn => hn hc)).symm.trans h
      refine lv_iconst (v := 1) hx hb (dt_bc_BP_workThrough 51 rfl) (by decide) ?_
      refine lv_goto (tgt := 101) hx hb (dt_bc_BP_workThrough 52 rfl) (by decide) ?_
      exact hL101 _ _ _ h ls H locs (lv_sub hl [0, 1, 3] rfl) hP hD hS
  suffices hgo : ∀ (H : Heap) (locs : List Loc), va_P E.1 bp_cl (bc_W E m) H → va_D A (bc_W E m) → va_S A s.heap H locs → W p l e ({ frames := 5, cells := 0, slots := 0, locals := 146 }) s mt args below meth c H locs 0 0 Q (F0 mt 0 ls []) from hgo _ _ hP hD hS
  clear hP hD hS
  intro H locs hP hD hS
  unfold bc_BP_workThrough at h
  refine lv_aload_n hx hb (dt_bc_BP_workThrough 0 rfl) rfl (lv_at hl 0 rfl) ?_
  refine va_get (D := E.1) (ci := 0) (v := .ref (E.2.1 1)) (C := "BlockPictures") (T := bF_BP) (N := 7) hx hb htb bc_in_BP hown hK hP 0 (bc_gBP E m) rfl 0 (by decide) (htb _ tw_359) (fun _ h9 => h9) rfl (dt_bc_BP_workThrough 1 rfl) ?_
  refine va_get (D := E.1) (ci := 1) (v := .ref (E.2.1 15)) (C := "BlockPictures$UnitIntake") (T := bF_UI) (N := 6) hx hb htb bc_in_UI hown hK hP 1 (bc_gUI E m) rfl 0 (by decide) (htb _ tw_99) (fun _ h9 => h9) rfl (dt_bc_BP_workThrough 2 rfl) ?_
  refine lv_iconst (v := 0) hx hb (dt_bc_BP_workThrough 3 rfl) (by decide) ?_
  obtain ⟨hg1, h⟩ := bp_gi_s h
  refine bc_lI E hx hb hK hP (bc_ga15 E) hg1 (dt_bc_BP_workThrough 4 rfl) ?_
  refine lv_topi (fun y2 ey2 => ?_)
  replace h := bp_nI_s h ey2
  refine lv_istore_n hx hb (dt_bc_BP_workThrough 5 rfl) rfl hl (Nat.le_of_ble_eq_true rfl) rfl (fun ls hl => ?_)
  have hl : lv_has ls 4 [(1, .int y2), (0, .ref (E.2.1 0))] := hl
  refine lv_iload_n hx hb (dt_bc_BP_workThrough 6 rfl) rfl (lv_at hl 0 rfl) ?_
  refine lv_bipush (v := 31) hx hb (dt_bc_BP_workThrough 7 rfl) (by decide) ?_
  refine lv_iand hx hb (dt_bc_BP_workThrough 8 rfl) ?_
  refine lv_topi (fun y3 ey3 => ?_)
  replace h := bp_nI_s h ey3
  refine lv_istore_n hx hb (dt_bc_BP_workThrough 9 rfl) rfl hl (Nat.le_of_ble_eq_true rfl) rfl (fun ls hl => ?_)
  have hl : lv_has ls 4 [(2, .int y3), (1, .int y2), (0, .ref (E.2.1 0))] := hl
  refine lv_aload_n hx hb (dt_bc_BP_workThrough 10 rfl) rfl (lv_at hl 2 rfl) ?_
  refine va_get (D := E.1) (ci := 0) (v := .ref (E.2.1 3)) (C := "BlockPictures") (T := bF_BP) (N := 7) hx hb htb bc_in_BP hown hK hP 0 (bc_gBP E m) rfl 2 (by decide) (htb _ tw_361) (fun _ h9 => h9) rfl (dt_bc_BP_workThrough 11 rfl) ?_
  refine va_get (D := E.1) (ci := 3) (v := .ref (E.2.1 6)) (C := "BlockPictures$PictureDecoder") (T := bF_PD) (N := 11) hx hb htb bc_in_PD hown hK hP 3 (bc_gPD E m) rfl 0 (by decide) (htb _ tw_260) (fun _ h9 => h9) rfl (dt_bc_BP_workThrough 12 rfl) ?_
  refine lv_astore_n hx hb (dt_bc_BP_workThrough 13 rfl) rfl hl (Nat.le_of_ble_eq_true rfl) rfl (fun ls hl => ?_)
  have hl : lv_has ls 4 [(3, .ref (E.2.1 6)), (2, .int y3), (1, .int y2), (0, .ref (E.2.1 0))] := hl
  refine lv_aload_n hx hb (dt_bc_BP_workThrough 14 rfl) rfl (lv_at hl 0 rfl) ?_
  refine lv_aload_n hx hb (dt_bc_BP_workThrough 15 rfl) rfl (lv_at hl 3 rfl) ?_
  refine va_get (D := E.1) (ci := 0) (v := .ref (E.2.1 1)) (C := "BlockPictures") (T := bF_BP) (N := 7) hx hb htb bc_in_BP hown hK hP 0 (bc_gBP E m) rfl 0 (by decide) (htb _ tw_359) (fun _ h9 => h9) rfl (dt_bc_BP_workThrough 16 rfl) ?_
  refine va_get (D := E.1) (ci := 1) (v := .ref (E.2.1 15)) (C := "BlockPictures$UnitIntake") (T := bF_UI) (N := 6) hx hb htb bc_in_UI hown hK hP 1 (bc_gUI E m) rfl 0 (by decide) (htb _ tw_99) (fun _ h9 => h9) rfl (dt_bc_BP_workThrough 17 rfl) ?_
  refine lv_aload_n hx hb (dt_bc_BP_workThrough 18 rfl) rfl (lv_at hl 3 rfl) ?_
  refine va_get (D := E.1) (ci := 0) (v := .ref (E.2.1 1)) (C := "BlockPictures") (T := bF_BP) (N := 7) hx hb htb bc_in_BP hown hK hP 0 (bc_gBP E m) rfl 0 (by decide) (htb _ tw_359) (fun _ h9 => h9) rfl (dt_bc_BP_workThrough 19 rfl) ?_
  refine va_get (D := E.1) (ci := 1) (v := .int (m.1 1 2)) (C := "BlockPictures$UnitIntake") (T := bF_UI) (N := 6) hx hb htb bc_in_UI hown hK hP 1 (bc_gUI E m) rfl 2 (by decide) (htb _ tw_102) (fun _ h9 => h9) rfl (dt_bc_BP_workThrough 20 rfl) ?_
  obtain ⟨m4, hm4, h⟩ := bp_cV_s h
  refine bc_callV E hsub hS (va_runV (As := [.ref (E.2.1 15), .int (m.1 1 2)]) (rest := []) ⟨hx, hb, hml, hown, htb⟩ (wbc_BR_open l E N 15 (m.1 1 2) m H.size m4 hm4) (cwV 2 htb (bp_goodV tw_413 tw_414 tw_415 tw_73 tw_416) rfl rfl rfl ⟨rfl, hd_bc_BR_open⟩ ⟨Nat.le_of_ble_eq_true rfl, Nat.le_of_ble_eq_true rfl⟩) (bc_preV E hsub hst hK hP hD hS (bc_gBR E m) rfl rfl _) rfl rfl hl.1 rfl (lv_room (Nat.le_of_ble_eq_true rfl)) (dt_bc_BP_workThrough 21 rfl) ⟨Nat.zero_le _, Nat.zero_le _⟩) (fun H locs hP hD hS => ?_)
  refine lv_iload_n hx hb (dt_bc_BP_workThrough 22 rfl) rfl (lv_at hl 2 rfl) ?_
  refine lv_bipush (v := 127) hx hb (dt_bc_BP_workThrough 23 rfl) (by decide) ?_
  refine lv_icmp_le (tgt := 55) hx hb (dt_bc_BP_workThrough 24 rfl) (by decide) (fun hc => ?_) (fun hc => ?_)
  · replace h := (if_pos hc).symm.trans h
    refine lv_iload_n hx hb (dt_bc_BP_workThrough 29 rfl) rfl (lv_at hl 1 rfl) ?_
    refine lv_bipush (v := 7) hx hb (dt_bc_BP_workThrough 30 rfl) (by decide) ?_
    refine lv_icmp_ne (tgt := 76) hx hb (dt_bc_BP_workThrough 31 rfl) (by decide) (fun hc => ?_) (fun hc => ?_)
    · replace h := (if_pos hc).symm.trans h
      refine lv_iload_n hx hb (dt_bc_BP_workThrough 39 rfl) rfl (lv_at hl 1 rfl) ?_
      refine lv_iconst (v := 5) hx hb (dt_bc_BP_workThrough 40 rfl) (by decide) ?_
      refine lv_icmp_eq (tgt := 86) hx hb (dt_bc_BP_workThrough 41 rfl) (by decide) (fun hc => ?_) (fun hc => ?_)
      · replace h := (if_pos hc).symm.trans h
        exact hL86 _ _ _ h ls H locs (lv_sub hl [3, 2, 1, 0] rfl) hP hD hS
      · replace h := (if_neg hc).symm.trans h
        refine lv_iload_n hx hb (dt_bc_BP_workThrough 42 rfl) rfl (lv_at hl 1 rfl) ?_
        refine lv_iconst (v := 1) hx hb (dt_bc_BP_workThrough 43 rfl) (by decide) ?_
        refine lv_icmp_ne (tgt := 109) hx hb (dt_bc_BP_workThrough 44 rfl) (by decide) (fun hc => ?_) (fun hc => ?_)
        · replace h := (if_pos hc).symm.trans h
          exact hL109 _ h ls H locs (lv_sub hl [3, 0] rfl) hP hD hS
        · replace h := (if_neg (fun hn => hn hc)).symm.trans h
          exact hL86 _ _ _ h ls H locs (lv_sub hl [3, 2, 1, 0] rfl) hP hD hS
    · replace h := (if_neg (fun hn => hn hc)).symm.trans h
      refine lv_aload_n hx hb (dt_bc_BP_workThrough 32 rfl) rfl (lv_at hl 0 rfl) ?_
      obtain ⟨m5, hm5, h⟩ := bp_cV_s h
      refine bc_callV E hsub hS (va_runV (As := []) (rest := []) ⟨hx, hb, hml, hown, htb⟩ (wbc_BR_needMark l E N  m4 H.size m5 hm5) (cwV 0 htb (bp_goodV tw_424 tw_425 tw_426 tw_73 tw_427) rfl rfl rfl ⟨rfl, hd_bc_BR_needMark⟩ ⟨Nat.le_of_ble_eq_true rfl, Nat.le_of_ble_eq_true rfl⟩) (bc_preV E hsub hst hK hP hD hS (bc_gBR E m4) rfl rfl _) rfl rfl hl.1 rfl (lv_room (Nat.le_of_ble_eq_true rfl)) (dt_bc_BP_workThrough 33 rfl) ⟨Nat.zero_le _, Nat.zero_le _⟩) (fun H locs hP hD hS => ?_)
      refine lv_aload_n hx hb (dt_bc_BP_workThrough 34 rfl) rfl (lv_at hl 3 rfl) ?_
      refine va_get (D := E.1) (ci := 0) (v := .ref (E.2.1 2)) (C := "BlockPictures") (T := bF_BP) (N := 7) hx hb htb bc_in_BP hown hK hP 0 (bc_gBP E m5) rfl 1 (by decide) (htb _ tw_360) (fun _ h9 => h9) rfl (dt_bc_BP_workThrough 35 rfl) ?_
      refine lv_aload_n hx hb (dt_bc_BP_workThrough 36 rfl) rfl (lv_at hl 0 rfl) ?_
      obtain ⟨m6, hm6, h⟩ := bp_cV_s h
      refine bc_callV E hsub hS (va_runV (As := [.ref (E.2.1 6)]) (rest := []) ⟨hx, hb, hml, hown, htb⟩ (wbc_PA_readPending l E N  m5 H.size m6 hm6) (cwV 1 htb (bp_goodV tw_429 tw_430 tw_431 tw_71 tw_432) rfl rfl rfl ⟨rfl, hd_bc_PA_readPending⟩ ⟨Nat.le_of_ble_eq_true rfl, Nat.le_of_ble_eq_true rfl⟩) (bc_preV E hsub hst hK hP hD hS (bc_gPA E m5) rfl rfl _) rfl rfl hl.1 rfl (lv_room (Nat.le_of_ble_eq_true rfl)) (dt_bc_BP_workThrough 37 rfl) ⟨Nat.zero_le _, Nat.zero_le _⟩) (fun H locs hP hD hS => ?_)
      refine lv_goto (tgt := 109) hx hb (dt_bc_BP_workThrough 38 rfl) (by decide) ?_
      exact hL109 _ h ls H locs (lv_sub hl [3, 0] rfl) hP hD hS
  · replace h := (if_neg hc).symm.trans h
    refine lv_aload_n hx hb (dt_bc_BP_workThrough 25 rfl) rfl (lv_at hl 0 rfl) ?_
    refine lv_iconst (v := 1) hx hb (dt_bc_BP_workThrough 26 rfl) (by decide) ?_
    obtain ⟨m7, hm7, h⟩ := bp_cV_s h
    refine bc_callV E hsub hS (va_runV (As := [.int 1]) (rest := []) ⟨hx, hb, hml, hown, htb⟩ (wbc_BR_fail l E N 1 m4 H.size m7 hm7) (cwV 1 htb (bp_goodV tw_420 tw_421 tw_422 tw_73 tw_423) rfl rfl rfl ⟨rfl, hd_bc_BR_fail⟩ ⟨Nat.le_of_ble_eq_true rfl, Nat.le_of_ble_eq_true rfl⟩) (bc_preV E hsub hst hK hP hD hS (bc_gBR E m4) rfl rfl _) rfl rfl hl.1 rfl (lv_room (Nat.le_of_ble_eq_true rfl)) (dt_bc_BP_workThrough 27 rfl) ⟨Nat.zero_le _, Nat.zero_le _⟩) (fun H locs hP hD hS => ?_)
    refine lv_goto (tgt := 109) hx hb (dt_bc_BP_workThrough 28 rfl) (by decide) ?_
    exact hL109 _ h ls H locs (lv_sub hl [3, 0] rfl) hP hD hS

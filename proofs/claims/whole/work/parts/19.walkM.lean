set_option maxHeartbeats 4000000 in
set_option maxRecDepth 100000 in
theorem wbm_M_clearLatest (l : Launch) (E : bm_E) (N : Nat)  (m : bp_M) (sz : Nat) (mr : bp_M)  (h : bm_M_clearLatest N m = some mr) : Met l y_bm_M_clearLatest (Cond.code y_bm_M_clearLatest prog_13_method_2_code 2 none :: bp_tb) ({ frames := 0, cells := 0, slots := 0, locals := 0 }) (bm_Pc E m sz [.ref (E.2.1 0)]) (bm_Qv E m sz mr) 0 0 (va_A (bm_W E m) sz) := by
  refine Met.ofW (cc := prog_13_method_2_code) (maxL := 2) (ret := none) (by decide) rfl ?_
  intro p e s mt args below meth c s₁ B hml hv
  obtain ⟨rfl, hsz, hP, hK, hD0, hst⟩ := hv
  have hx := B.exec
  have hb := B.bytes
  have hr := B.returns
  have htb : ∀ w ∈ bp_tb, w.before _ s = true := fun w hw => atoms_spec (ws := Cond.code y_bm_M_clearLatest prog_13_method_2_code 2 none :: bp_tb) B.pre w (List.mem_cons_of_mem _ hw)
  have hown : s.vm.findClass "BlockPicturesModel" = some mt.cls := findClass_of_methodNamed B.named
  have hlocks := B.notSynchronized
  subst hsz
  have hD := hD0.self (sz := s.heap.size)
  generalize hAe : va_A (bm_W E m) s.heap.size = A at hD hst ⊢
  have hsub : ∀ (u : bp_M) (z q : Nat), s.heap.size ≤ z → va_A (bm_W E u) z q → A q := bm_sub hAe
  have hS : va_S A s.heap s.heap [] := va_S.rf
  have hl := lv_entry ([.ref (E.2.1 0)]) (n := 2) (Nat.le_of_ble_eq_true rfl)
  rw [lg_entry_eq]
  generalize (lg_sl ([.ref (E.2.1 0)]) ++ List.replicate (2 - (lg_sl ([.ref (E.2.1 0)])).length) Slot.unset).toArray = ls at hl ⊢
  have hl : lv_has ls 2 [(0, .ref (E.2.1 0))] := hl
  refine bm_keyV (R := ({ frames := 0, cells := 0, slots := 0, locals := 0 })) E hx hb hr hlocks hK hAe (fun Q hret => ?_)
  clear B hD0 hlocks hr
  generalize ([.ref (E.2.1 0)] : List Value).toArray = args at htb hret ⊢
  clear hAe
  have hL21 : ∀ (m : bp_M), bm_M_clearLatest_L21 N m = some mr → ∀ (ls : Array Slot) (H : Heap) (locs : List Loc), lv_has ls 2 [(0, .ref (E.2.1 0))] → va_P E.1 bp_cl (bm_W E m) H → va_D A (bm_W E m) → va_S A s.heap H locs → W p l e ({ frames := 0, cells := 0, slots := 0, locals := 0 }) s mt args below meth c H locs 0 0 Q (F0 mt 21 ls []) := by
    intro m h ls H locs hl hP hD hS
    rw [bm_M_clearLatest_L21] at h
    refine lv_aload_n hx hb (dt_bm_M_clearLatest 12 rfl) rfl (lv_at hl 0 rfl) ?_
    refine lv_iconst (v := 0) hx hb (dt_bm_M_clearLatest 13 rfl) (by decide) ?_
    refine bm_pM_32 E hx hb htb hown hK hP hD hS (htb _ tw_800) (dt_bm_M_clearLatest 14 rfl) (fun m1 em1 H locs hP hD hS => ?_)
    replace h := bp_nM_s h em1
    refine lv_aload_n hx hb (dt_bm_M_clearLatest 15 rfl) rfl (lv_at hl 0 rfl) ?_
    refine lv_iconst (v := 0) hx hb (dt_bm_M_clearLatest 16 rfl) (by decide) ?_
    obtain ⟨hg3, h⟩ := bp_g_s h
    refine bm_pM_33 E hx hb htb hown hK hP hD hS hg3 (htb _ tw_801) (dt_bm_M_clearLatest 17 rfl) (fun m2 em2 H locs hP hD hS => ?_)
    replace h := bp_nM_s h em2
    exact hret _ _ _ _ _ h hP hD hS (dt_bm_M_clearLatest 18 rfl)
  have hL2 : ∀ (n2 : Nat) (x1 : Int32) (m : bp_M), bm_M_clearLatest_L2 N n2 x1 m = some mr → ∀ (ls : Array Slot) (H : Heap) (locs : List Loc), lv_has ls 2 [(0, .ref (E.2.1 0)), (1, .int x1)] → va_P E.1 bp_cl (bm_W E m) H → va_D A (bm_W E m) → va_S A s.heap H locs → W p l e ({ frames := 0, cells := 0, slots := 0, locals := 0 }) s mt args below meth c H locs 0 0 Q (F0 mt 2 ls []) := by
    intro n2
    induction n2 with
    | zero =>
      intro x1 m h ls H locs hl hP hD hS
      rw [bm_M_clearLatest_L2] at h
      cases h
    | succ n2 ih2 =>
      intro x1 m h ls H locs hl hP hD hS
      rw [bm_M_clearLatest_L2] at h
      refine lv_iload_n hx hb (dt_bm_M_clearLatest 2 rfl) rfl (lv_at hl 1 rfl) ?_
      refine lv_bipush (v := 16) hx hb (dt_bm_M_clearLatest 3 rfl) (by decide) ?_
      refine lv_icmp_ge (tgt := 21) hx hb (dt_bm_M_clearLatest 4 rfl) (by decide) (fun hc => ?_) (fun hc => ?_)
      · replace h := (if_pos hc).symm.trans h
        exact hL21 _ h ls H locs (lv_sub hl [0] rfl) hP hD hS
      · replace h := (if_neg hc).symm.trans h
        refine lv_aload_n hx hb (dt_bm_M_clearLatest 5 rfl) rfl (lv_at hl 0 rfl) ?_
        refine va_get (D := E.1) (ci := 10) (v := .ref (E.2.1 12)) (C := "BlockPicturesModel") (T := bF_M) (N := 48) hx hb htb bm_in_M hown hK hP 0 (bm_gM E m) rfl 31 (by decide) (htb _ tw_799) (fun _ h9 => h9) rfl (dt_bm_M_clearLatest 6 rfl) ?_
        refine lv_iload_n hx hb (dt_bm_M_clearLatest 7 rfl) rfl (lv_at hl 1 rfl) ?_
        refine lv_iconst (v := (-1)) hx hb (dt_bm_M_clearLatest 8 rfl) (by decide) ?_
        obtain ⟨hg1, h⟩ := bp_gi_s h
        refine bm_sI E hx hb hK hP hD hS (bm_ga12 E) hg1 (dt_bm_M_clearLatest 9 rfl) (fun m2 em2 H locs hP hD hS => ?_)
        replace h := bp_nM_s h em2
        obtain ⟨y3, ey3⟩ : ∃ z : Int32, z = x1 + 1 := ⟨_, rfl⟩
        replace h := bp_nI_s h ey3
        refine lv_iinc (k := 1) (v := y3) hx hb (dt_bm_M_clearLatest 10 rfl) hl rfl (by rw [ey3]; rfl) (Nat.le_of_ble_eq_true rfl) rfl (fun ls hl => ?_)
        have hl : lv_has ls 2 [(1, .int y3), (0, .ref (E.2.1 0))] := hl
        refine lv_goto (tgt := 2) hx hb (dt_bm_M_clearLatest 11 rfl) (by decide) ?_
        exact ih2 _ _ h ls H locs (lv_sub hl [1, 0] rfl) hP hD hS
  suffices hgo : ∀ (H : Heap) (locs : List Loc), va_P E.1 bp_cl (bm_W E m) H → va_D A (bm_W E m) → va_S A s.heap H locs → W p l e ({ frames := 0, cells := 0, slots := 0, locals := 0 }) s mt args below meth c H locs 0 0 Q (F0 mt 0 ls []) from hgo _ _ hP hD hS
  clear hP hD hS
  intro H locs hP hD hS
  unfold bm_M_clearLatest at h
  refine lv_iconst (v := 0) hx hb (dt_bm_M_clearLatest 0 rfl) (by decide) ?_
  refine lv_istore_n hx hb (dt_bm_M_clearLatest 1 rfl) rfl hl (Nat.le_of_ble_eq_true rfl) rfl (fun ls hl => ?_)
  have hl : lv_has ls 2 [(1, .int 0), (0, .ref (E.2.1 0))] := hl
  exact hL2 _ _ _ h ls H locs (lv_sub hl [1, 0] rfl) hP hD hS
set_option maxHeartbeats 4000000 in
set_option maxRecDepth 100000 in
theorem wbm_M_within (l : Launch) (E : bm_E) (N : Nat) (a0 : Int32) (a1 : Int32) (a2 : Int32) (m : bp_M) (sz : Nat) (r : Int32) (mr : bp_M)  (h : bm_M_within N a0 a1 a2 m = some (r, mr)) : Met l y_bm_M_within (Cond.code y_bm_M_within prog_13_method_3_code 3 (some .boolean) :: bp_tb) ({ frames := 0, cells := 0, slots := 0, locals := 0 }) (bm_Pc E m sz [.int a0, .int a1, .int a2]) (bm_Qi E m sz r mr) 0 0 (va_A (bm_W E m) sz) := by
  refine Met.ofW (cc := prog_13_method_3_code) (maxL := 3) (ret := (some .boolean)) (by decide) rfl ?_
  intro p e s mt args below meth c s₁ B hml hv
  obtain ⟨rfl, hsz, hP, hK, hD0, hst⟩ := hv
  have hx := B.exec
  have hb := B.bytes
  have hr := B.returns
  have htb : ∀ w ∈ bp_tb, w.before _ s = true := fun w hw => atoms_spec (ws := Cond.code y_bm_M_within prog_13_method_3_code 3 (some .boolean) :: bp_tb) B.pre w (List.mem_cons_of_mem _ hw)
  have hown : s.vm.findClass "BlockPicturesModel" = some mt.cls := findClass_of_methodNamed B.named
  have hlocks := B.notSynchronized
  subst hsz
  have hD := hD0.self (sz := s.heap.size)
  generalize hAe : va_A (bm_W E m) s.heap.size = A at hD hst ⊢
  have hsub : ∀ (u : bp_M) (z q : Nat), s.heap.size ≤ z → va_A (bm_W E u) z q → A q := bm_sub hAe
  have hS : va_S A s.heap s.heap [] := va_S.rf
  have hl := lv_entry ([.int a0, .int a1, .int a2]) (n := 3) (Nat.le_of_ble_eq_true rfl)
  rw [lg_entry_eq]
  generalize (lg_sl ([.int a0, .int a1, .int a2]) ++ List.replicate (3 - (lg_sl ([.int a0, .int a1, .int a2])).length) Slot.unset).toArray = ls at hl ⊢
  have hl : lv_has ls 3 [(0, .int a0), (1, .int a1), (2, .int a2)] := hl
  refine bm_keyZ (R := ({ frames := 0, cells := 0, slots := 0, locals := 0 })) E hx hb hr hlocks hK hAe (fun Q hret => ?_)
  clear B hD0 hlocks hr
  generalize ([.int a0, .int a1, .int a2] : List Value).toArray = args at htb hret ⊢
  clear hAe
  have hL15 : ∀ (s0 : Int32) (m : bp_M), bm_M_within_L15 N a0 a1 a2 s0 m = some (r, mr) → ∀ (ls : Array Slot) (H : Heap) (locs : List Loc), lv_has ls 3 [] → va_P E.1 bp_cl (bm_W E m) H → va_D A (bm_W E m) → va_S A s.heap H locs → W p l e ({ frames := 0, cells := 0, slots := 0, locals := 0 }) s mt args below meth c H locs 0 0 Q (F0 mt 15 ls [.int s0]) := by
    intro s0 m h ls H locs hl hP hD hS
    rw [bm_M_within_L15] at h
    obtain ⟨hg1, h⟩ := bp_g_s h
    exact hret _ _ _ _ _ _ hg1 h hP hD hS (dt_bm_M_within 9 rfl)
  have hL14 : ∀ (m : bp_M), bm_M_within_L14 N a0 a1 a2 m = some (r, mr) → ∀ (ls : Array Slot) (H : Heap) (locs : List Loc), lv_has ls 3 [] → va_P E.1 bp_cl (bm_W E m) H → va_D A (bm_W E m) → va_S A s.heap H locs → W p l e ({ frames := 0, cells := 0, slots := 0, locals := 0 }) s mt args below meth c H locs 0 0 Q (F0 mt 14 ls []) := by
    intro m h ls H locs hl hP hD hS
    rw [bm_M_within_L14] at h
    refine lv_iconst (v := 0) hx hb (dt_bm_M_within 8 rfl) (by decide) ?_
    exact hL15 _ _ h ls H locs (lv_sub hl [] rfl) hP hD hS
  suffices hgo : ∀ (H : Heap) (locs : List Loc), va_P E.1 bp_cl (bm_W E m) H → va_D A (bm_W E m) → va_S A s.heap H locs → W p l e ({ frames := 0, cells := 0, slots := 0, locals := 0 }) s mt args below meth c H locs 0 0 Q (F0 mt 0 ls []) from hgo _ _ hP hD hS
  clear hP hD hS
  intro H locs hP hD hS
  unfold bm_M_within at h
  refine lv_iload_n hx hb (dt_bm_M_within 0 rfl) rfl (lv_at hl 0 rfl) ?_
  refine lv_iload_n hx hb (dt_bm_M_within 1 rfl) rfl (lv_at hl 1 rfl) ?_
  refine lv_icmp_lt (tgt := 14) hx hb (dt_bm_M_within 2 rfl) (by decide) (fun hc => ?_) (fun hc => ?_)
  · replace h := (if_pos hc).symm.trans h
    exact hL14 _ h ls H locs (lv_sub hl [] rfl) hP hD hS
  · replace h := (if_neg hc).symm.trans h
    refine lv_iload_n hx hb (dt_bm_M_within 3 rfl) rfl (lv_at hl 0 rfl) ?_
    refine lv_iload_n hx hb (dt_bm_M_within 4 rfl) rfl (lv_at hl 2 rfl) ?_
    refine lv_icmp_gt (tgt := 14) hx hb (dt_bm_M_within 5 rfl) (by decide) (fun hc => ?_) (fun hc => ?_)
    · replace h := (if_pos hc).symm.trans h
      exact hL14 _ h ls H locs (lv_sub hl [] rfl) hP hD hS
    · replace h := (if_neg hc).symm.trans h
      refine lv_iconst (v := 1) hx hb (dt_bm_M_within 6 rfl) (by decide) ?_
      refine lv_goto (tgt := 15) hx hb (dt_bm_M_within 7 rfl) (by decide) ?_
      exact hL15 _ _ h ls H locs (lv_sub hl [] rfl) hP hD hS
set_option maxHeartbeats 4000000 in
set_option maxRecDepth 100000 in
theorem wbm_M_limit (l : Launch) (E : bm_E) (N : Nat) (a0 : Int32) (m : bp_M) (sz : Nat) (r : Int32) (mr : bp_M)  (h : bm_M_limit N a0 m = some (r, mr)) : Met l y_bm_M_limit (Cond.code y_bm_M_limit prog_13_method_4_code 1 (some .int) :: bp_tb) ({ frames := 0, cells := 0, slots := 0, locals := 0 }) (bm_Pc E m sz [.int a0]) (bm_Qi E m sz r mr) 0 0 (va_A (bm_W E m) sz) := by
  refine Met.ofW (cc := prog_13_method_4_code) (maxL := 1) (ret := (some .int)) (by decide) rfl ?_
  intro p e s mt args below meth c s₁ B hml hv
  obtain ⟨rfl, hsz, hP, hK, hD0, hst⟩ := hv
  have hx := B.exec
  have hb := B.bytes
  have hr := B.returns
  have htb : ∀ w ∈ bp_tb, w.before _ s = true := fun w hw => atoms_spec (ws := Cond.code y_bm_M_limit prog_13_method_4_code 1 (some .int) :: bp_tb) B.pre w (List.mem_cons_of_mem _ hw)
  have hown : s.vm.findClass "BlockPicturesModel" = some mt.cls := findClass_of_methodNamed B.named
  have hlocks := B.notSynchronized
  subst hsz
  have hD := hD0.self (sz := s.heap.size)
  generalize hAe : va_A (bm_W E m) s.heap.size = A at hD hst ⊢
  have hsub : ∀ (u : bp_M) (z q : Nat), s.heap.size ≤ z → va_A (bm_W E u) z q → A q := bm_sub hAe
  have hS : va_S A s.heap s.heap [] := va_S.rf
  have hl := lv_entry ([.int a0]) (n := 1) (Nat.le_of_ble_eq_true rfl)
  rw [lg_entry_eq]
  generalize (lg_sl ([.int a0]) ++ List.replicate (1 - (lg_sl ([.int a0])).length) Slot.unset).toArray = ls at hl ⊢
  have hl : lv_has ls 1 [(0, .int a0)] := hl
  refine bm_keyI (R := ({ frames := 0, cells := 0, slots := 0, locals := 0 })) E hx hb hr hlocks hK hAe (fun Q hret => ?_)
  clear B hD0 hlocks hr
  generalize ([.int a0] : List Value).toArray = args at htb hret ⊢
  clear hAe
  have hL22 : ∀ (s0 : Int32) (m : bp_M), bm_M_limit_L22 N a0 s0 m = some (r, mr) → ∀ (ls : Array Slot) (H : Heap) (locs : List Loc), lv_has ls 1 [] → va_P E.1 bp_cl (bm_W E m) H → va_D A (bm_W E m) → va_S A s.heap H locs → W p l e ({ frames := 0, cells := 0, slots := 0, locals := 0 }) s mt args below meth c H locs 0 0 Q (F0 mt 22 ls [.int s0]) := by
    intro s0 m h ls H locs hl hP hD hS
    rw [bm_M_limit_L22] at h
    exact hret _ _ _ _ _ _ h hP hD hS (dt_bm_M_limit 10 rfl)
  suffices hgo : ∀ (H : Heap) (locs : List Loc), va_P E.1 bp_cl (bm_W E m) H → va_D A (bm_W E m) → va_S A s.heap H locs → W p l e ({ frames := 0, cells := 0, slots := 0, locals := 0 }) s mt args below meth c H locs 0 0 Q (F0 mt 0 ls []) from hgo _ _ hP hD hS
  clear hP hD hS
  intro H locs hP hD hS
  unfold bm_M_limit at h
  refine lv_iload_n hx hb (dt_bm_M_limit 0 rfl) rfl (lv_at hl 0 rfl) ?_
  refine lv_if_ge (tgt := 8) hx hb (dt_bm_M_limit 1 rfl) (by decide) (fun hc => ?_) (fun hc => ?_)
  · replace h := (if_pos hc).symm.trans h
    refine lv_iload_n hx hb (dt_bm_M_limit 4 rfl) rfl (lv_at hl 0 rfl) ?_
    refine lv_sipush (v := 255) hx hb (dt_bm_M_limit 5 rfl) (by decide) ?_
    refine lv_icmp_le (tgt := 21) hx hb (dt_bm_M_limit 6 rfl) (by decide) (fun hc => ?_) (fun hc => ?_)
    · replace h := (if_pos hc).symm.trans h
      refine lv_iload_n hx hb (dt_bm_M_limit 9 rfl) rfl (lv_at hl 0 rfl) ?_
      exact hL22 _ _ h ls H locs (lv_sub hl [] rfl) hP hD hS
    · replace h := (if_neg hc).symm.trans h
      refine lv_sipush (v := 255) hx hb (dt_bm_M_limit 7 rfl) (by decide) ?_
      refine lv_goto (tgt := 22) hx hb (dt_bm_M_limit 8 rfl) (by decide) ?_
      exact hL22 _ _ h ls H locs (lv_sub hl [] rfl) hP hD hS
  · replace h := (if_neg hc).symm.trans h
    refine lv_iconst (v := 0) hx hb (dt_bm_M_limit 2 rfl) (by decide) ?_
    refine lv_goto (tgt := 22) hx hb (dt_bm_M_limit 3 rfl) (by decide) ?_
    exact hL22 _ _ h ls H locs (lv_sub hl [] rfl) hP hD hS
set_option maxHeartbeats 4000000 in
set_option maxRecDepth 100000 in
theorem wbm_M_distance (l : Launch) (E : bm_E) (N : Nat) (a0 : Int32) (a1 : Int32) (m : bp_M) (sz : Nat) (r : Int32) (mr : bp_M)  (h : bm_M_distance N a0 a1 m = some (r, mr)) : Met l y_bm_M_distance (Cond.code y_bm_M_distance prog_13_method_5_code 2 (some .int) :: bp_tb) ({ frames := 0, cells := 0, slots := 0, locals := 0 }) (bm_Pc E m sz [.int a0, .int a1]) (bm_Qi E m sz r mr) 0 0 (va_A (bm_W E m) sz) := by
  refine Met.ofW (cc := prog_13_method_5_code) (maxL := 2) (ret := (some .int)) (by decide) rfl ?_
  intro p e s mt args below meth c s₁ B hml hv
  obtain ⟨rfl, hsz, hP, hK, hD0, hst⟩ := hv
  have hx := B.exec
  have hb := B.bytes
  have hr := B.returns
  have htb : ∀ w ∈ bp_tb, w.before _ s = true := fun w hw => atoms_spec (ws := Cond.code y_bm_M_distance prog_13_method_5_code 2 (some .int) :: bp_tb) B.pre w (List.mem_cons_of_mem _ hw)
  have hown : s.vm.findClass "BlockPicturesModel" = some mt.cls := findClass_of_methodNamed B.named
  have hlocks := B.notSynchronized
  subst hsz
  have hD := hD0.self (sz := s.heap.size)
  generalize hAe : va_A (bm_W E m) s.heap.size = A at hD hst ⊢
  have hsub : ∀ (u : bp_M) (z q : Nat), s.heap.size ≤ z → va_A (bm_W E u) z q → A q := bm_sub hAe
  have hS : va_S A s.heap s.heap [] := va_S.rf
  have hl := lv_entry ([.int a0, .int a1]) (n := 2) (Nat.le_of_ble_eq_true rfl)
  rw [lg_entry_eq]
  generalize (lg_sl ([.int a0, .int a1]) ++ List.replicate (2 - (lg_sl ([.int a0, .int a1])).length) Slot.unset).toArray = ls at hl ⊢
  have hl : lv_has ls 2 [(0, .int a0), (1, .int a1)] := hl
  refine bm_keyI (R := ({ frames := 0, cells := 0, slots := 0, locals := 0 })) E hx hb hr hlocks hK hAe (fun Q hret => ?_)
  clear B hD0 hlocks hr
  generalize ([.int a0, .int a1] : List Value).toArray = args at htb hret ⊢
  clear hAe
  have hL14 : ∀ (s0 : Int32) (m : bp_M), bm_M_distance_L14 N a0 a1 s0 m = some (r, mr) → ∀ (ls : Array Slot) (H : Heap) (locs : List Loc), lv_has ls 2 [] → va_P E.1 bp_cl (bm_W E m) H → va_D A (bm_W E m) → va_S A s.heap H locs → W p l e ({ frames := 0, cells := 0, slots := 0, locals := 0 }) s mt args below meth c H locs 0 0 Q (F0 mt 14 ls [.int s0]) := by
    intro s0 m h ls H locs hl hP hD hS
    rw [bm_M_distance_L14] at h
    exact hret _ _ _ _ _ _ h hP hD hS (dt_bm_M_distance 10 rfl)
  suffices hgo : ∀ (H : Heap) (locs : List Loc), va_P E.1 bp_cl (bm_W E m) H → va_D A (bm_W E m) → va_S A s.heap H locs → W p l e ({ frames := 0, cells := 0, slots := 0, locals := 0 }) s mt args below meth c H locs 0 0 Q (F0 mt 0 ls []) from hgo _ _ hP hD hS
  clear hP hD hS
  intro H locs hP hD hS
  unfold bm_M_distance at h
  refine lv_iload_n hx hb (dt_bm_M_distance 0 rfl) rfl (lv_at hl 0 rfl) ?_
  refine lv_iload_n hx hb (dt_bm_M_distance 1 rfl) rfl (lv_at hl 1 rfl) ?_
  refine lv_icmp_ge (tgt := 11) hx hb (dt_bm_M_distance 2 rfl) (by decide) (fun hc => ?_) (fun hc => ?_)
  · replace h := (if_pos hc).symm.trans h
    refine lv_iload_n hx hb (dt_bm_M_distance 7 rfl) rfl (lv_at hl 0 rfl) ?_
    refine lv_iload_n hx hb (dt_bm_M_distance 8 rfl) rfl (lv_at hl 1 rfl) ?_
    refine lv_isub hx hb (dt_bm_M_distance 9 rfl) ?_
    exact hL14 _ _ h ls H locs (lv_sub hl [] rfl) hP hD hS
  · replace h := (if_neg hc).symm.trans h
    refine lv_iload_n hx hb (dt_bm_M_distance 3 rfl) rfl (lv_at hl 1 rfl) ?_
    refine lv_iload_n hx hb (dt_bm_M_distance 4 rfl) rfl (lv_at hl 0 rfl) ?_
    refine lv_isub hx hb (dt_bm_M_distance 5 rfl) ?_
    refine lv_goto (tgt := 14) hx hb (dt_bm_M_distance 6 rfl) (by decide) ?_
    exact hL14 _ _ h ls H locs (lv_sub hl [] rfl) hP hD hS
set_option maxHeartbeats 4000000 in
set_option maxRecDepth 100000 in
theorem wbm_M_bits (l : Launch) (E : bm_E) (N : Nat) (a1 : Int32) (m : bp_M) (sz : Nat) (r : Int32) (mr : bp_M)  (h : bm_M_bits N a1 m = some (r, mr)) : Met l y_bm_M_bits (Cond.code y_bm_M_bits prog_13_method_11_code 5 (some .int) :: bp_tb) ({ frames := 0, cells := 0, slots := 0, locals := 0 }) (bm_Pc E m sz [.ref (E.2.1 0), .int a1]) (bm_Qi E m sz r mr) 0 0 (va_A (bm_W E m) sz) := by
  refine Met.ofW (cc := prog_13_method_11_code) (maxL := 5) (ret := (some .int)) (by decide) rfl ?_
  intro p e s mt args below meth c s₁ B hml hv
  obtain ⟨rfl, hsz, hP, hK, hD0, hst⟩ := hv
  have hx := B.exec
  have hb := B.bytes
  have hr := B.returns
  have htb : ∀ w ∈ bp_tb, w.before _ s = true := fun w hw => atoms_spec (ws := Cond.code y_bm_M_bits prog_13_method_11_code 5 (some .int) :: bp_tb) B.pre w (List.mem_cons_of_mem _ hw)
  have hown : s.vm.findClass "BlockPicturesModel" = some mt.cls := findClass_of_methodNamed B.named
  have hlocks := B.notSynchronized
  subst hsz
  have hD := hD0.self (sz := s.heap.size)
  generalize hAe : va_A (bm_W E m) s.heap.size = A at hD hst ⊢
  have hsub : ∀ (u : bp_M) (z q : Nat), s.heap.size ≤ z → va_A (bm_W E u) z q → A q := bm_sub hAe
  have hS : va_S A s.heap s.heap [] := va_S.rf
  have hl := lv_entry ([.ref (E.2.1 0), .int a1]) (n := 5) (Nat.le_of_ble_eq_true rfl)
  rw [lg_entry_eq]
  generalize (lg_sl ([.ref (E.2.1 0), .int a1]) ++ List.replicate (5 - (lg_sl ([.ref (E.2.1 0), .int a1])).length) Slot.unset).toArray = ls at hl ⊢
  have hl : lv_has ls 5 [(0, .ref (E.2.1 0)), (1, .int a1)] := hl
  refine bm_keyI (R := ({ frames := 0, cells := 0, slots := 0, locals := 0 })) E hx hb hr hlocks hK hAe (fun Q hret => ?_)
  clear B hD0 hlocks hr
  generalize ([.ref (E.2.1 0), .int a1] : List Value).toArray = args at htb hret ⊢
  clear hAe
  have hL90 : ∀ (x2 : Int32) (m : bp_M), bm_M_bits_L90 N a1 x2 m = some (r, mr) → ∀ (ls : Array Slot) (H : Heap) (locs : List Loc), lv_has ls 5 [(2, .int x2)] → va_P E.1 bp_cl (bm_W E m) H → va_D A (bm_W E m) → va_S A s.heap H locs → W p l e ({ frames := 0, cells := 0, slots := 0, locals := 0 }) s mt args below meth c H locs 0 0 Q (F0 mt 90 ls []) := by
    intro x2 m h ls H locs hl hP hD hS
    rw [bm_M_bits_L90] at h
    refine lv_iload_n hx hb (dt_bm_M_bits 57 rfl) rfl (lv_at hl 0 rfl) ?_
    exact hret _ _ _ _ _ _ h hP hD hS (dt_bm_M_bits 58 rfl)
  have hL33 : ∀ (n33 : Nat) (x2 : Int32) (x3 : Int32) (m : bp_M), bm_M_bits_L33 N a1 n33 x2 x3 m = some (r, mr) → ∀ (ls : Array Slot) (H : Heap) (locs : List Loc), lv_has ls 5 [(0, .ref (E.2.1 0)), (1, .int a1), (2, .int x2), (3, .int x3)] → va_P E.1 bp_cl (bm_W E m) H → va_D A (bm_W E m) → va_S A s.heap H locs → W p l e ({ frames := 0, cells := 0, slots := 0, locals := 0 }) s mt args below meth c H locs 0 0 Q (F0 mt 33 ls []) := by
    intro n33
    induction n33 with
    | zero =>
      intro x2 x3 m h ls H locs hl hP hD hS
      rw [bm_M_bits_L33] at h
      cases h
    | succ n33 ih33 =>
      intro x2 x3 m h ls H locs hl hP hD hS
      rw [bm_M_bits_L33] at h
      refine lv_iload_n hx hb (dt_bm_M_bits 21 rfl) rfl (lv_at hl 3 rfl) ?_
      refine lv_iload_n hx hb (dt_bm_M_bits 22 rfl) rfl (lv_at hl 1 rfl) ?_
      refine lv_icmp_ge (tgt := 90) hx hb (dt_bm_M_bits 23 rfl) (by decide) (fun hc => ?_) (fun hc => ?_)
      · replace h := (if_pos hc).symm.trans h
        exact hL90 _ _ h ls H locs (lv_sub hl [2] rfl) hP hD hS
      · replace h := (if_neg hc).symm.trans h
        refine lv_aload_n hx hb (dt_bm_M_bits 24 rfl) rfl (lv_at hl 0 rfl) ?_
        refine va_get (D := E.1) (ci := 10) (v := .ref (E.2.1 4)) (C := "BlockPicturesModel") (T := bF_M) (N := 48) hx hb htb bm_in_M hown hK hP 0 (bm_gM E m) rfl 3 (by decide) (htb _ tw_771) (fun _ h9 => h9) rfl (dt_bm_M_bits 25 rfl) ?_
        refine lv_iconst (v := 1) hx hb (dt_bm_M_bits 26 rfl) (by decide) ?_
        refine lv_aload_n hx hb (dt_bm_M_bits 27 rfl) rfl (lv_at hl 0 rfl) ?_
        refine va_get (D := E.1) (ci := 10) (v := .int (m.1 0 11)) (C := "BlockPicturesModel") (T := bF_M) (N := 48) hx hb htb bm_in_M hown hK hP 0 (bm_gM E m) rfl 11 (by decide) (htb _ tw_779) (fun _ h9 => h9) rfl (dt_bm_M_bits 28 rfl) ?_
        refine lv_bipush (v := 8) hx hb (dt_bm_M_bits 29 rfl) (by decide) ?_
        refine lv_idiv hx hb (dt_bm_M_bits 30 rfl) (by decide) ?_
        refine lv_iadd hx hb (dt_bm_M_bits 31 rfl) ?_
        obtain ⟨hg1, h⟩ := bp_gi_s h
        refine bm_lI E hx hb hK hP (bm_ga4 E) hg1 (dt_bm_M_bits 32 rfl) ?_
        refine lv_bipush (v := 7) hx hb (dt_bm_M_bits 33 rfl) (by decide) ?_
        refine lv_aload_n hx hb (dt_bm_M_bits 34 rfl) rfl (lv_at hl 0 rfl) ?_
        refine va_get (D := E.1) (ci := 10) (v := .int (m.1 0 11)) (C := "BlockPicturesModel") (T := bF_M) (N := 48) hx hb htb bm_in_M hown hK hP 0 (bm_gM E m) rfl 11 (by decide) (htb _ tw_779) (fun _ h9 => h9) rfl (dt_bm_M_bits 35 rfl) ?_
        refine lv_bipush (v := 8) hx hb (dt_bm_M_bits 36 rfl) (by decide) ?_
        refine lv_irem hx hb (dt_bm_M_bits 37 rfl) (by decide) ?_
        refine lv_isub hx hb (dt_bm_M_bits 38 rfl) ?_
        refine lv_ishr hx hb (dt_bm_M_bits 39 rfl) ?_
        refine lv_iconst (v := 1) hx hb (dt_bm_M_bits 40 rfl) (by decide) ?_
        refine lv_iand hx hb (dt_bm_M_bits 41 rfl) ?_
        refine lv_topi (fun y2 ey2 => ?_)
        replace h := bp_nI_s h ey2
        refine lv_istore hx hb (dt_bm_M_bits 42 rfl) hl (Nat.le_of_ble_eq_true rfl) rfl (fun ls hl => ?_)
        have hl : lv_has ls 5 [(4, .int y2), (0, .ref (E.2.1 0)), (1, .int a1), (2, .int x2), (3, .int x3)] := hl
        refine lv_iconst (v := 2) hx hb (dt_bm_M_bits 43 rfl) (by decide) ?_
        refine lv_iload_n hx hb (dt_bm_M_bits 44 rfl) rfl (lv_at hl 3 rfl) ?_
        refine lv_imul hx hb (dt_bm_M_bits 45 rfl) ?_
        refine lv_iload hx hb (dt_bm_M_bits 46 rfl) (lv_at hl 0 rfl) ?_
        refine lv_iadd hx hb (dt_bm_M_bits 47 rfl) ?_
        refine lv_topi (fun y3 ey3 => ?_)
        replace h := bp_nI_s h ey3
        refine lv_istore_n hx hb (dt_bm_M_bits 48 rfl) rfl hl (Nat.le_of_ble_eq_true rfl) rfl (fun ls hl => ?_)
        have hl : lv_has ls 5 [(2, .int y3), (4, .int y2), (0, .ref (E.2.1 0)), (1, .int a1), (3, .int x3)] := hl
        refine lv_aload_n hx hb (dt_bm_M_bits 49 rfl) rfl (lv_at hl 2 rfl) ?_
        refine lv_dup hx hb (dt_bm_M_bits 50 rfl) rfl ?_
        refine va_get (D := E.1) (ci := 10) (v := .int (m.1 0 11)) (C := "BlockPicturesModel") (T := bF_M) (N := 48) hx hb htb bm_in_M hown hK hP 0 (bm_gM E m) rfl 11 (by decide) (htb _ tw_779) (fun _ h9 => h9) rfl (dt_bm_M_bits 51 rfl) ?_
        refine lv_iconst (v := 1) hx hb (dt_bm_M_bits 52 rfl) (by decide) ?_
        refine lv_iadd hx hb (dt_bm_M_bits 53 rfl) ?_
        refine bm_pM_11 E hx hb htb hown hK hP hD hS (htb _ tw_779) (dt_bm_M_bits 54 rfl) (fun m4 em4 H locs hP hD hS => ?_)
        replace h := bp_nM_s h em4
        obtain ⟨y5, ey5⟩ : ∃ z : Int32, z = x3 + 1 := ⟨_, rfl⟩
        replace h := bp_nI_s h ey5
        refine lv_iinc (k := 4) (v := y5) hx hb (dt_bm_M_bits 55 rfl) hl rfl (by rw [ey5]; rfl) (Nat.le_of_ble_eq_true rfl) rfl (fun ls hl => ?_)
        have hl : lv_has ls 5 [(3, .int y5), (2, .int y3), (4, .int y2), (0, .ref (E.2.1 0)), (1, .int a1)] := hl
        refine lv_goto (tgt := 33) hx hb (dt_bm_M_bits 56 rfl) (by decide) ?_
        exact ih33 _ _ _ h ls H locs (lv_sub hl [3, 4, 1, 0] rfl) hP hD hS
  suffices hgo : ∀ (H : Heap) (locs : List Loc), va_P E.1 bp_cl (bm_W E m) H → va_D A (bm_W E m) → va_S A s.heap H locs → W p l e ({ frames := 0, cells := 0, slots := 0, locals := 0 }) s mt args below meth c H locs 0 0 Q (F0 mt 0 ls []) from hgo _ _ hP hD hS
  clear hP hD hS
  intro H locs hP hD hS
  unfold bm_M_bits at h
  refine lv_aload_n hx hb (dt_bm_M_bits 0 rfl) rfl (lv_at hl 0 rfl) ?_
  refine va_get (D := E.1) (ci := 10) (v := .int (m.1 0 12)) (C := "BlockPicturesModel") (T := bF_M) (N := 48) hx hb htb bm_in_M hown hK hP 0 (bm_gM E m) rfl 12 (by decide) (htb _ tw_780) (fun _ h9 => h9) rfl (dt_bm_M_bits 1 rfl) ?_
  refine lv_if_eq (tgt := 9) hx hb (dt_bm_M_bits 2 rfl) (by decide) (fun hc => ?_) (fun hc => ?_)
  · replace h := (if_pos hc).symm.trans h
    refine lv_aload_n hx hb (dt_bm_M_bits 5 rfl) rfl (lv_at hl 0 rfl) ?_
    refine va_get (D := E.1) (ci := 10) (v := .int (m.1 0 11)) (C := "BlockPicturesModel") (T := bF_M) (N := 48) hx hb htb bm_in_M hown hK hP 0 (bm_gM E m) rfl 11 (by decide) (htb _ tw_779) (fun _ h9 => h9) rfl (dt_bm_M_bits 6 rfl) ?_
    refine lv_iload_n hx hb (dt_bm_M_bits 7 rfl) rfl (lv_at hl 1 rfl) ?_
    refine lv_iadd hx hb (dt_bm_M_bits 8 rfl) ?_
    refine lv_aload_n hx hb (dt_bm_M_bits 9 rfl) rfl (lv_at hl 0 rfl) ?_
    refine va_get (D := E.1) (ci := 10) (v := .int (m.1 0 10)) (C := "BlockPicturesModel") (T := bF_M) (N := 48) hx hb htb bm_in_M hown hK hP 0 (bm_gM E m) rfl 10 (by decide) (htb _ tw_778) (fun _ h9 => h9) rfl (dt_bm_M_bits 10 rfl) ?_
    refine lv_icmp_le (tgt := 29) hx hb (dt_bm_M_bits 11 rfl) (by decide) (fun hc => ?_) (fun hc => ?_)
    · replace h := (if_pos hc).symm.trans h
      refine lv_iconst (v := 0) hx hb (dt_bm_M_bits 17 rfl) (by decide) ?_
      refine lv_istore_n hx hb (dt_bm_M_bits 18 rfl) rfl hl (Nat.le_of_ble_eq_true rfl) rfl (fun ls hl => ?_)
      have hl : lv_has ls 5 [(2, .int 0), (0, .ref (E.2.1 0)), (1, .int a1)] := hl
      refine lv_iconst (v := 0) hx hb (dt_bm_M_bits 19 rfl) (by decide) ?_
      refine lv_istore_n hx hb (dt_bm_M_bits 20 rfl) rfl hl (Nat.le_of_ble_eq_true rfl) rfl (fun ls hl => ?_)
      have hl : lv_has ls 5 [(3, .int 0), (2, .int 0), (0, .ref (E.2.1 0)), (1, .int a1)] := hl
      exact hL33 _ _ _ _ h ls H locs (lv_sub hl [2, 3, 1, 0] rfl) hP hD hS
    · replace h := (if_neg hc).symm.trans h
      refine lv_aload_n hx hb (dt_bm_M_bits 12 rfl) rfl (lv_at hl 0 rfl) ?_
      refine lv_iconst (v := 4) hx hb (dt_bm_M_bits 13 rfl) (by decide) ?_
      refine bm_pM_12 E hx hb htb hown hK hP hD hS (htb _ tw_780) (dt_bm_M_bits 14 rfl) (fun m1 em1 H locs hP hD hS => ?_)
      replace h := bp_nM_s h em1
      refine lv_iconst (v := 0) hx hb (dt_bm_M_bits 15 rfl) (by decide) ?_
      exact hret _ _ _ _ _ _ h hP hD hS (dt_bm_M_bits 16 rfl)
  · replace h := (if_neg hc).symm.trans h
    refine lv_iconst (v := 0) hx hb (dt_bm_M_bits 3 rfl) (by decide) ?_
    exact hret _ _ _ _ _ _ h hP hD hS (dt_bm_M_bits 4 rfl)
set_option maxHeartbeats 4000000 in
set_option maxRecDepth 100000 in
theorem wbm_M_number (l : Launch) (E : bm_E) (N : Nat) (a1 : Int32) (a2 : Int32) (m : bp_M) (sz : Nat) (r : Int32) (mr : bp_M)  (h : bm_M_number N a1 a2 m = some (r, mr)) : Met l y_bm_M_number (Cond.code y_bm_M_number prog_13_method_12_code 7 (some .int) :: bp_tb) ({ frames := 1, cells := 0, slots := 0, locals := 24 }) (bm_Pc E m sz [.ref (E.2.1 0), .int a1, .int a2]) (bm_Qi E m sz r mr) 0 0 (va_A (bm_W E m) sz) := by
  refine Met.ofW (cc := prog_13_method_12_code) (maxL := 7) (ret := (some .int)) (by decide) rfl ?_
  intro p e s mt args below meth c s₁ B hml hv
  obtain ⟨rfl, hsz, hP, hK, hD0, hst⟩ := hv
  have hx := B.exec
  have hb := B.bytes
  have hr := B.returns
  have htb : ∀ w ∈ bp_tb, w.before _ s = true := fun w hw => atoms_spec (ws := Cond.code y_bm_M_number prog_13_method_12_code 7 (some .int) :: bp_tb) B.pre w (List.mem_cons_of_mem _ hw)
  have hown : s.vm.findClass "BlockPicturesModel" = some mt.cls := findClass_of_methodNamed B.named
  have hlocks := B.notSynchronized
  subst hsz
  have hD := hD0.self (sz := s.heap.size)
  generalize hAe : va_A (bm_W E m) s.heap.size = A at hD hst ⊢
  have hsub : ∀ (u : bp_M) (z q : Nat), s.heap.size ≤ z → va_A (bm_W E u) z q → A q := bm_sub hAe
  have hS : va_S A s.heap s.heap [] := va_S.rf
  have hl := lv_entry ([.ref (E.2.1 0), .int a1, .int a2]) (n := 7) (Nat.le_of_ble_eq_true rfl)
  rw [lg_entry_eq]
  generalize (lg_sl ([.ref (E.2.1 0), .int a1, .int a2]) ++ List.replicate (7 - (lg_sl ([.ref (E.2.1 0), .int a1, .int a2])).length) Slot.unset).toArray = ls at hl ⊢
  have hl : lv_has ls 7 [(0, .ref (E.2.1 0)), (1, .int a1), (2, .int a2)] := hl
  refine bm_keyI (R := ({ frames := 1, cells := 0, slots := 0, locals := 24 })) E hx hb hr hlocks hK hAe (fun Q hret => ?_)
  clear B hD0 hlocks hr
  generalize ([.ref (E.2.1 0), .int a1, .int a2] : List Value).toArray = args at htb hret ⊢
  clear hAe
  have hL115 : ∀ (s0 : Int32) (m : bp_M), bm_M_number_L115 N a1 a2 s0 m = some (r, mr) → ∀ (ls : Array Slot) (H : Heap) (locs : List Loc), lv_has ls 7 [] → va_P E.1 bp_cl (bm_W E m) H → va_D A (bm_W E m) → va_S A s.heap H locs → W p l e ({ frames := 1, cells := 0, slots := 0, locals := 24 }) s mt args below meth c H locs 0 0 Q (F0 mt 115 ls [.int s0]) := by
    intro s0 m h ls H locs hl hP hD hS
    rw [bm_M_number_L115] at h
    exact hret _ _ _ _ _ _ h hP hD hS (dt_bm_M_number 63 rfl)
  have hL102 : ∀ (x6 : Int32) (m : bp_M), bm_M_number_L102 N a1 a2 x6 m = some (r, mr) → ∀ (ls : Array Slot) (H : Heap) (locs : List Loc), lv_has ls 7 [(0, .ref (E.2.1 0)), (6, .int x6)] → va_P E.1 bp_cl (bm_W E m) H → va_D A (bm_W E m) → va_S A s.heap H locs → W p l e ({ frames := 1, cells := 0, slots := 0, locals := 24 }) s mt args below meth c H locs 0 0 Q (F0 mt 102 ls []) := by
    intro x6 m h ls H locs hl hP hD hS
    rw [bm_M_number_L102] at h
    refine lv_aload_n hx hb (dt_bm_M_number 57 rfl) rfl (lv_at hl 0 rfl) ?_
    refine va_get (D := E.1) (ci := 10) (v := .int (m.1 0 12)) (C := "BlockPicturesModel") (T := bF_M) (N := 48) hx hb htb bm_in_M hown hK hP 0 (bm_gM E m) rfl 12 (by decide) (htb _ tw_780) (fun _ h9 => h9) rfl (dt_bm_M_number 58 rfl) ?_
    refine lv_if_ne (tgt := 114) hx hb (dt_bm_M_number 59 rfl) (by decide) (fun hc => ?_) (fun hc => ?_)
    · replace h := (if_pos hc).symm.trans h
      refine lv_iconst (v := 0) hx hb (dt_bm_M_number 62 rfl) (by decide) ?_
      exact hL115 _ _ h ls H locs (lv_sub hl [] rfl) hP hD hS
    · replace h := (if_neg (fun hn => hn hc)).symm.trans h
      refine lv_iload hx hb (dt_bm_M_number 60 rfl) (lv_at hl 1 rfl) ?_
      refine lv_goto (tgt := 115) hx hb (dt_bm_M_number 61 rfl) (by decide) ?_
      exact hL115 _ _ h ls H locs (lv_sub hl [] rfl) hP hD hS
  have hL67 : ∀ (x3 : Int32) (m : bp_M), bm_M_number_L67 N a1 a2 x3 m = some (r, mr) → ∀ (ls : Array Slot) (H : Heap) (locs : List Loc), lv_has ls 7 [(0, .ref (E.2.1 0)), (1, .int a1), (2, .int a2), (3, .int x3)] → va_P E.1 bp_cl (bm_W E m) H → va_D A (bm_W E m) → va_S A s.heap H locs → W p l e ({ frames := 1, cells := 0, slots := 0, locals := 24 }) s mt args below meth c H locs 0 0 Q (F0 mt 67 ls []) := by
    intro x3 m h ls H locs hl hP hD hS
    rw [bm_M_number_L67] at h
    refine lv_aload_n hx hb (dt_bm_M_number 36 rfl) rfl (lv_at hl 0 rfl) ?_
    refine lv_iload_n hx hb (dt_bm_M_number 37 rfl) rfl (lv_at hl 3 rfl) ?_
    obtain ⟨z2, m1, hm1, h⟩ := bp_cI_s h
    refine bm_callI E hsub hS (va_runV (As := [.int x3]) (rest := []) ⟨hx, hb, hml, hown, htb⟩ (wbm_M_bits l E N x3 m H.size z2 m1 hm1) (cwV 1 htb (bp_goodV tw_944 tw_946 tw_39 tw_79 tw_947) rfl rfl rfl ⟨rfl, hd_bm_M_bits⟩ ⟨Nat.le_of_ble_eq_true rfl, Nat.le_of_ble_eq_true rfl⟩) (bm_preV E hsub hst hK hP hD hS (bm_gM E m) rfl rfl _) rfl rfl hl.1 rfl (lv_room (Nat.le_of_ble_eq_true rfl)) (dt_bm_M_number 38 rfl) ⟨Nat.zero_le _, Nat.zero_le _⟩) (fun H locs hP hD hS => ?_)
    refine lv_istore hx hb (dt_bm_M_number 39 rfl) hl (Nat.le_of_ble_eq_true rfl) rfl (fun ls hl => ?_)
    have hl : lv_has ls 7 [(5, .int z2), (0, .ref (E.2.1 0)), (1, .int a1), (2, .int a2), (3, .int x3)] := hl
    refine lv_iconst (v := 1) hx hb (dt_bm_M_number 40 rfl) (by decide) ?_
    refine lv_iload_n hx hb (dt_bm_M_number 41 rfl) rfl (lv_at hl 4 rfl) ?_
    refine lv_ishl hx hb (dt_bm_M_number 42 rfl) ?_
    refine lv_iconst (v := 1) hx hb (dt_bm_M_number 43 rfl) (by decide) ?_
    refine lv_isub hx hb (dt_bm_M_number 44 rfl) ?_
    refine lv_iload hx hb (dt_bm_M_number 45 rfl) (lv_at hl 0 rfl) ?_
    refine lv_iadd hx hb (dt_bm_M_number 46 rfl) ?_
    refine lv_topi (fun y3 ey3 => ?_)
    replace h := bp_nI_s h ey3
    refine lv_istore hx hb (dt_bm_M_number 47 rfl) hl (Nat.le_of_ble_eq_true rfl) rfl (fun ls hl => ?_)
    have hl : lv_has ls 7 [(6, .int y3), (5, .int z2), (0, .ref (E.2.1 0)), (1, .int a1), (2, .int a2), (3, .int x3)] := hl
    refine lv_aload_n hx hb (dt_bm_M_number 48 rfl) rfl (lv_at hl 2 rfl) ?_
    refine va_get (D := E.1) (ci := 10) (v := .int (m1.1 0 12)) (C := "BlockPicturesModel") (T := bF_M) (N := 48) hx hb htb bm_in_M hown hK hP 0 (bm_gM E m1) rfl 12 (by decide) (htb _ tw_780) (fun _ h9 => h9) rfl (dt_bm_M_number 49 rfl) ?_
    refine lv_if_ne (tgt := 102) hx hb (dt_bm_M_number 50 rfl) (by decide) (fun hc => ?_) (fun hc => ?_)
    · replace h := (if_pos hc).symm.trans h
      exact hL102 _ _ h ls H locs (lv_sub hl [2, 0] rfl) hP hD hS
    · replace h := (if_neg (fun hn => hn hc)).symm.trans h
      refine lv_iload hx hb (dt_bm_M_number 51 rfl) (lv_at hl 0 rfl) ?_
      refine lv_iload_n hx hb (dt_bm_M_number 52 rfl) rfl (lv_at hl 3 rfl) ?_
      refine lv_icmp_le (tgt := 102) hx hb (dt_bm_M_number 53 rfl) (by decide) (fun hc => ?_) (fun hc => ?_)
      · replace h := (if_pos hc).symm.trans h
        exact hL102 _ _ h ls H locs (lv_sub hl [2, 0] rfl) hP hD hS
      · replace h := (if_neg hc).symm.trans h
        refine lv_aload_n hx hb (dt_bm_M_number 54 rfl) rfl (lv_at hl 2 rfl) ?_
        refine lv_iload_n hx hb (dt_bm_M_number 55 rfl) rfl (lv_at hl 4 rfl) ?_
        refine bm_pM_12 E hx hb htb hown hK hP hD hS (htb _ tw_780) (dt_bm_M_number 56 rfl) (fun m4 em4 H locs hP hD hS => ?_)
        replace h := bp_nM_s h em4
        exact hL102 _ _ h ls H locs (lv_sub hl [2, 0] rfl) hP hD hS
  have hL5 : ∀ (n5 : Nat) (x3 : Int32) (x4 : Int32) (m : bp_M), bm_M_number_L5 N a1 a2 n5 x3 x4 m = some (r, mr) → ∀ (ls : Array Slot) (H : Heap) (locs : List Loc), lv_has ls 7 [(0, .ref (E.2.1 0)), (1, .int a1), (2, .int a2), (3, .int x3), (4, .int x4)] → va_P E.1 bp_cl (bm_W E m) H → va_D A (bm_W E m) → va_S A s.heap H locs → W p l e ({ frames := 1, cells := 0, slots := 0, locals := 24 }) s mt args below meth c H locs 0 0 Q (F0 mt 5 ls []) := by
    intro n5
    induction n5 with
    | zero =>
      intro x3 x4 m h ls H locs hl hP hD hS
      rw [bm_M_number_L5] at h
      cases h
    | succ n5 ih5 =>
      have hL44 : ∀ (x4 : Int32) (s0 : Int32) (s1 : Int32) (m : bp_M), bm_M_number_L44 (bm_M_number_L5 N a1 a2 n5) N a1 a2 x4 s0 s1 m = some (r, mr) → ∀ (ls : Array Slot) (H : Heap) (locs : List Loc), lv_has ls 7 [(0, .ref (E.2.1 0)), (1, .int a1), (2, .int a2), (4, .int x4)] → va_P E.1 bp_cl (bm_W E m) H → va_D A (bm_W E m) → va_S A s.heap H locs → W p l e ({ frames := 1, cells := 0, slots := 0, locals := 24 }) s mt args below meth c H locs 0 0 Q (F0 mt 44 ls [.int s0, .int s1]) := by
        intro x4 s0 s1 m h ls H locs hl hP hD hS
        rw [bm_M_number_L44] at h
        refine lv_iadd hx hb (dt_bm_M_number 24 rfl) ?_
        refine lv_topi (fun y1 ey1 => ?_)
        replace h := bp_nI_s h ey1
        refine lv_istore_n hx hb (dt_bm_M_number 25 rfl) rfl hl (Nat.le_of_ble_eq_true rfl) rfl (fun ls hl => ?_)
        have hl : lv_has ls 7 [(3, .int y1), (0, .ref (E.2.1 0)), (1, .int a1), (2, .int a2), (4, .int x4)] := hl
        refine lv_aload_n hx hb (dt_bm_M_number 26 rfl) rfl (lv_at hl 1 rfl) ?_
        refine va_get (D := E.1) (ci := 10) (v := .int (m.1 0 12)) (C := "BlockPicturesModel") (T := bF_M) (N := 48) hx hb htb bm_in_M hown hK hP 0 (bm_gM E m) rfl 12 (by decide) (htb _ tw_780) (fun _ h9 => h9) rfl (dt_bm_M_number 27 rfl) ?_
        refine lv_if_ne (tgt := 5) hx hb (dt_bm_M_number 28 rfl) (by decide) (fun hc => ?_) (fun hc => ?_)
        · replace h := (if_pos hc).symm.trans h
          exact ih5 _ _ _ h ls H locs (lv_sub hl [1, 2, 3, 0, 4] rfl) hP hD hS
        · replace h := (if_neg (fun hn => hn hc)).symm.trans h
          refine lv_iload_n hx hb (dt_bm_M_number 29 rfl) rfl (lv_at hl 0 rfl) ?_
          refine lv_bipush (v := 11) hx hb (dt_bm_M_number 30 rfl) (by decide) ?_
          refine lv_icmp_ne (tgt := 5) hx hb (dt_bm_M_number 31 rfl) (by decide) (fun hc => ?_) (fun hc => ?_)
          · replace h := (if_pos hc).symm.trans h
            exact ih5 _ _ _ h ls H locs (lv_sub hl [1, 2, 3, 0, 4] rfl) hP hD hS
          · replace h := (if_neg (fun hn => hn hc)).symm.trans h
            refine lv_aload_n hx hb (dt_bm_M_number 32 rfl) rfl (lv_at hl 1 rfl) ?_
            refine lv_iconst (v := 5) hx hb (dt_bm_M_number 33 rfl) (by decide) ?_
            refine bm_pM_12 E hx hb htb hown hK hP hD hS (htb _ tw_780) (dt_bm_M_number 34 rfl) (fun m2 em2 H locs hP hD hS => ?_)
            replace h := bp_nM_s h em2
            refine lv_goto (tgt := 5) hx hb (dt_bm_M_number 35 rfl) (by decide) ?_
            exact ih5 _ _ _ h ls H locs (lv_sub hl [1, 2, 3, 0, 4] rfl) hP hD hS
      have hL31 : ∀ (x3 : Int32) (s0 : Int32) (m : bp_M), bm_M_number_L31 (bm_M_number_L5 N a1 a2 n5) N a1 a2 x3 s0 m = some (r, mr) → ∀ (ls : Array Slot) (H : Heap) (locs : List Loc), lv_has ls 7 [(0, .ref (E.2.1 0)), (1, .int a1), (2, .int a2), (3, .int x3)] → va_P E.1 bp_cl (bm_W E m) H → va_D A (bm_W E m) → va_S A s.heap H locs → W p l e ({ frames := 1, cells := 0, slots := 0, locals := 24 }) s mt args below meth c H locs 0 0 Q (F0 mt 31 ls [.int s0]) := by
        intro x3 s0 m h ls H locs hl hP hD hS
        rw [bm_M_number_L31] at h
        refine lv_istore hx hb (dt_bm_M_number 17 rfl) hl (Nat.le_of_ble_eq_true rfl) rfl (fun ls hl => ?_)
        have hl : lv_has ls 7 [(4, .int s0), (0, .ref (E.2.1 0)), (1, .int a1), (2, .int a2), (3, .int x3)] := hl
        refine lv_iload_n hx hb (dt_bm_M_number 18 rfl) rfl (lv_at hl 4 rfl) ?_
        refine lv_iload hx hb (dt_bm_M_number 19 rfl) (lv_at hl 0 rfl) ?_
        refine lv_if_eq (tgt := 43) hx hb (dt_bm_M_number 20 rfl) (by decide) (fun hc => ?_) (fun hc => ?_)
        · replace h := (if_pos hc).symm.trans h
          refine lv_iconst (v := 1) hx hb (dt_bm_M_number 23 rfl) (by decide) ?_
          exact hL44 _ _ _ _ h ls H locs (lv_sub hl [1, 2, 3, 0] rfl) hP hD hS
        · replace h := (if_neg hc).symm.trans h
          refine lv_iconst (v := 0) hx hb (dt_bm_M_number 21 rfl) (by decide) ?_
          refine lv_goto (tgt := 44) hx hb (dt_bm_M_number 22 rfl) (by decide) ?_
          exact hL44 _ _ _ _ h ls H locs (lv_sub hl [1, 2, 3, 0] rfl) hP hD hS
      intro x3 x4 m h ls H locs hl hP hD hS
      rw [bm_M_number_L5] at h
      refine lv_aload_n hx hb (dt_bm_M_number 4 rfl) rfl (lv_at hl 0 rfl) ?_
      refine va_get (D := E.1) (ci := 10) (v := .int (m.1 0 12)) (C := "BlockPicturesModel") (T := bF_M) (N := 48) hx hb htb bm_in_M hown hK hP 0 (bm_gM E m) rfl 12 (by decide) (htb _ tw_780) (fun _ h9 => h9) rfl (dt_bm_M_number 5 rfl) ?_
      refine lv_if_ne (tgt := 67) hx hb (dt_bm_M_number 6 rfl) (by decide) (fun hc => ?_) (fun hc => ?_)
      · replace h := (if_pos hc).symm.trans h
        exact hL67 _ _ h ls H locs (lv_sub hl [0, 1, 2, 3] rfl) hP hD hS
      · replace h := (if_neg (fun hn => hn hc)).symm.trans h
        refine lv_iload hx hb (dt_bm_M_number 7 rfl) (lv_at hl 4 rfl) ?_
        refine lv_if_ne (tgt := 67) hx hb (dt_bm_M_number 8 rfl) (by decide) (fun hc => ?_) (fun hc => ?_)
        · replace h := (if_pos hc).symm.trans h
          exact hL67 _ _ h ls H locs (lv_sub hl [0, 1, 2, 3] rfl) hP hD hS
        · replace h := (if_neg (fun hn => hn hc)).symm.trans h
          refine lv_aload_n hx hb (dt_bm_M_number 9 rfl) rfl (lv_at hl 0 rfl) ?_
          refine lv_iconst (v := 1) hx hb (dt_bm_M_number 10 rfl) (by decide) ?_
          obtain ⟨z2, m1, hm1, h⟩ := bp_cI_s h
          refine bm_callI E hsub hS (va_runV (As := [.int 1]) (rest := []) ⟨hx, hb, hml, hown, htb⟩ (wbm_M_bits l E N 1 m H.size z2 m1 hm1) (cwV 1 htb (bp_goodV tw_944 tw_946 tw_39 tw_79 tw_947) rfl rfl rfl ⟨rfl, hd_bm_M_bits⟩ ⟨Nat.le_of_ble_eq_true rfl, Nat.le_of_ble_eq_true rfl⟩) (bm_preV E hsub hst hK hP hD hS (bm_gM E m) rfl rfl _) rfl rfl hl.1 rfl (lv_room (Nat.le_of_ble_eq_true rfl)) (dt_bm_M_number 11 rfl) ⟨Nat.zero_le _, Nat.zero_le _⟩) (fun H locs hP hD hS => ?_)
          refine lv_iconst (v := 1) hx hb (dt_bm_M_number 12 rfl) (by decide) ?_
          refine lv_icmp_ne (tgt := 30) hx hb (dt_bm_M_number 13 rfl) (by decide) (fun hc => ?_) (fun hc => ?_)
          · replace h := (if_pos hc).symm.trans h
            refine lv_iconst (v := 0) hx hb (dt_bm_M_number 16 rfl) (by decide) ?_
            exact hL31 _ _ _ h ls H locs (lv_sub hl [0, 1, 2, 3] rfl) hP hD hS
          · replace h := (if_neg (fun hn => hn hc)).symm.trans h
            refine lv_iconst (v := 1) hx hb (dt_bm_M_number 14 rfl) (by decide) ?_
            refine lv_goto (tgt := 31) hx hb (dt_bm_M_number 15 rfl) (by decide) ?_
            exact hL31 _ _ _ h ls H locs (lv_sub hl [0, 1, 2, 3] rfl) hP hD hS
  suffices hgo : ∀ (H : Heap) (locs : List Loc), va_P E.1 bp_cl (bm_W E m) H → va_D A (bm_W E m) → va_S A s.heap H locs → W p l e ({ frames := 1, cells := 0, slots := 0, locals := 24 }) s mt args below meth c H locs 0 0 Q (F0 mt 0 ls []) from hgo _ _ hP hD hS
  clear hP hD hS
  intro H locs hP hD hS
  unfold bm_M_number at h
  refine lv_iconst (v := 0) hx hb (dt_bm_M_number 0 rfl) (by decide) ?_
  refine lv_istore_n hx hb (dt_bm_M_number 1 rfl) rfl hl (Nat.le_of_ble_eq_true rfl) rfl (fun ls hl => ?_)
  have hl : lv_has ls 7 [(3, .int 0), (0, .ref (E.2.1 0)), (1, .int a1), (2, .int a2)] := hl
  refine lv_iconst (v := 0) hx hb (dt_bm_M_number 2 rfl) (by decide) ?_
  refine lv_istore hx hb (dt_bm_M_number 3 rfl) hl (Nat.le_of_ble_eq_true rfl) rfl (fun ls hl => ?_)
  have hl : lv_has ls 7 [(4, .int 0), (3, .int 0), (0, .ref (E.2.1 0)), (1, .int a1), (2, .int a2)] := hl
  exact hL5 _ _ _ _ h ls H locs (lv_sub hl [2, 3, 4, 1, 0] rfl) hP hD hS
set_option maxHeartbeats 4000000 in
set_option maxRecDepth 100000 in
theorem wbm_M_toEnd (l : Launch) (E : bm_E) (N : Nat)  (m : bp_M) (sz : Nat) (mr : bp_M)  (h : bm_M_toEnd N m = some mr) : Met l y_bm_M_toEnd (Cond.code y_bm_M_toEnd prog_13_method_15_code 1 none :: bp_tb) ({ frames := 0, cells := 0, slots := 0, locals := 0 }) (bm_Pc E m sz [.ref (E.2.1 0)]) (bm_Qv E m sz mr) 0 0 (va_A (bm_W E m) sz) := by
  refine Met.ofW (cc := prog_13_method_15_code) (maxL := 1) (ret := none) (by decide) rfl ?_
  intro p e s mt args below meth c s₁ B hml hv
  obtain ⟨rfl, hsz, hP, hK, hD0, hst⟩ := hv
  have hx := B.exec
  have hb := B.bytes
  have hr := B.returns
  have htb : ∀ w ∈ bp_tb, w.before _ s = true := fun w hw => atoms_spec (ws := Cond.code y_bm_M_toEnd prog_13_method_15_code 1 none :: bp_tb) B.pre w (List.mem_cons_of_mem _ hw)
  have hown : s.vm.findClass "BlockPicturesModel" = some mt.cls := findClass_of_methodNamed B.named
  have hlocks := B.notSynchronized
  subst hsz
  have hD := hD0.self (sz := s.heap.size)
  generalize hAe : va_A (bm_W E m) s.heap.size = A at hD hst ⊢
  have hsub : ∀ (u : bp_M) (z q : Nat), s.heap.size ≤ z → va_A (bm_W E u) z q → A q := bm_sub hAe
  have hS : va_S A s.heap s.heap [] := va_S.rf
  have hl := lv_entry ([.ref (E.2.1 0)]) (n := 1) (Nat.le_of_ble_eq_true rfl)
  rw [lg_entry_eq]
  generalize (lg_sl ([.ref (E.2.1 0)]) ++ List.replicate (1 - (lg_sl ([.ref (E.2.1 0)])).length) Slot.unset).toArray = ls at hl ⊢
  have hl : lv_has ls 1 [(0, .ref (E.2.1 0))] := hl
  refine bm_keyV (R := ({ frames := 0, cells := 0, slots := 0, locals := 0 })) E hx hb hr hlocks hK hAe (fun Q hret => ?_)
  clear B hD0 hlocks hr
  generalize ([.ref (E.2.1 0)] : List Value).toArray = args at htb hret ⊢
  clear hAe
  have hL24 : ∀ (m : bp_M), bm_M_toEnd_L24 N m = some mr → ∀ (ls : Array Slot) (H : Heap) (locs : List Loc), lv_has ls 1 [] → va_P E.1 bp_cl (bm_W E m) H → va_D A (bm_W E m) → va_S A s.heap H locs → W p l e ({ frames := 0, cells := 0, slots := 0, locals := 0 }) s mt args below meth c H locs 0 0 Q (F0 mt 24 ls []) := by
    intro m h ls H locs hl hP hD hS
    rw [bm_M_toEnd_L24] at h
    exact hret _ _ _ _ _ h hP hD hS (dt_bm_M_toEnd 11 rfl)
  suffices hgo : ∀ (H : Heap) (locs : List Loc), va_P E.1 bp_cl (bm_W E m) H → va_D A (bm_W E m) → va_S A s.heap H locs → W p l e ({ frames := 0, cells := 0, slots := 0, locals := 0 }) s mt args below meth c H locs 0 0 Q (F0 mt 0 ls []) from hgo _ _ hP hD hS
  clear hP hD hS
  intro H locs hP hD hS
  unfold bm_M_toEnd at h
  refine lv_aload_n hx hb (dt_bm_M_toEnd 0 rfl) rfl (lv_at hl 0 rfl) ?_
  refine va_get (D := E.1) (ci := 10) (v := .int (m.1 0 12)) (C := "BlockPicturesModel") (T := bF_M) (N := 48) hx hb htb bm_in_M hown hK hP 0 (bm_gM E m) rfl 12 (by decide) (htb _ tw_780) (fun _ h9 => h9) rfl (dt_bm_M_toEnd 1 rfl) ?_
  refine lv_if_ne (tgt := 24) hx hb (dt_bm_M_toEnd 2 rfl) (by decide) (fun hc => ?_) (fun hc => ?_)
  · replace h := (if_pos hc).symm.trans h
    exact hL24 _ h ls H locs (lv_sub hl [] rfl) hP hD hS
  · replace h := (if_neg (fun hn => hn hc)).symm.trans h
    refine lv_aload_n hx hb (dt_bm_M_toEnd 3 rfl) rfl (lv_at hl 0 rfl) ?_
    refine va_get (D := E.1) (ci := 10) (v := .int (m.1 0 11)) (C := "BlockPicturesModel") (T := bF_M) (N := 48) hx hb htb bm_in_M hown hK hP 0 (bm_gM E m) rfl 11 (by decide) (htb _ tw_779) (fun _ h9 => h9) rfl (dt_bm_M_toEnd 4 rfl) ?_
    refine lv_aload_n hx hb (dt_bm_M_toEnd 5 rfl) rfl (lv_at hl 0 rfl) ?_
    refine va_get (D := E.1) (ci := 10) (v := .int (m.1 0 10)) (C := "BlockPicturesModel") (T := bF_M) (N := 48) hx hb htb bm_in_M hown hK hP 0 (bm_gM E m) rfl 10 (by decide) (htb _ tw_778) (fun _ h9 => h9) rfl (dt_bm_M_toEnd 6 rfl) ?_
    refine lv_icmp_ge (tgt := 24) hx hb (dt_bm_M_toEnd 7 rfl) (by decide) (fun hc => ?_) (fun hc => ?_)
    · replace h := (if_pos hc).symm.trans h
      exact hL24 _ h ls H locs (lv_sub hl [] rfl) hP hD hS
    · replace h := (if_neg hc).symm.trans h
      refine lv_aload_n hx hb (dt_bm_M_toEnd 8 rfl) rfl (lv_at hl 0 rfl) ?_
      refine lv_bipush (v := 6) hx hb (dt_bm_M_toEnd 9 rfl) (by decide) ?_
      refine bm_pM_12 E hx hb htb hown hK hP hD hS (htb _ tw_780) (dt_bm_M_toEnd 10 rfl) (fun m1 em1 H locs hP hD hS => ?_)
      replace h := bp_nM_s h em1
      exact hL24 _ h ls H locs (lv_sub hl [] rfl) hP hD hS
set_option maxHeartbeats 4000000 in
set_option maxRecDepth 100000 in
theorem wbm_M_parameters (l : Launch) (E : bm_E) (N : Nat)  (m : bp_M) (sz : Nat) (mr : bp_M)  (h : bm_M_parameters N m = some mr) : Met l y_bm_M_parameters (Cond.code y_bm_M_parameters prog_13_method_16_code 3 none :: bp_tb) ({ frames := 2, cells := 0, slots := 0, locals := 50 }) (bm_Pc E m sz [.ref (E.2.1 0)]) (bm_Qv E m sz mr) 0 0 (va_A (bm_W E m) sz) := by
  refine Met.ofW (cc := prog_13_method_16_code) (maxL := 3) (ret := none) (by decide) rfl ?_
  intro p e s mt args below meth c s₁ B hml hv
  obtain ⟨rfl, hsz, hP, hK, hD0, hst⟩ := hv
  have hx := B.exec
  have hb := B.bytes
  have hr := B.returns
  have htb : ∀ w ∈ bp_tb, w.before _ s = true := fun w hw => atoms_spec (ws := Cond.code y_bm_M_parameters prog_13_method_16_code 3 none :: bp_tb) B.pre w (List.mem_cons_of_mem _ hw)
  have hown : s.vm.findClass "BlockPicturesModel" = some mt.cls := findClass_of_methodNamed B.named
  have hlocks := B.notSynchronized
  subst hsz
  have hD := hD0.self (sz := s.heap.size)
  generalize hAe : va_A (bm_W E m) s.heap.size = A at hD hst ⊢
  have hsub : ∀ (u : bp_M) (z q : Nat), s.heap.size ≤ z → va_A (bm_W E u) z q → A q := bm_sub hAe
  have hS : va_S A s.heap s.heap [] := va_S.rf
  have hl := lv_entry ([.ref (E.2.1 0)]) (n := 3) (Nat.le_of_ble_eq_true rfl)
  rw [lg_entry_eq]
  generalize (lg_sl ([.ref (E.2.1 0)]) ++ List.replicate (3 - (lg_sl ([.ref (E.2.1 0)])).length) Slot.unset).toArray = ls at hl ⊢
  have hl : lv_has ls 3 [(0, .ref (E.2.1 0))] := hl
  refine bm_keyV (R := ({ frames := 2, cells := 0, slots := 0, locals := 50 })) E hx hb hr hlocks hK hAe (fun Q hret => ?_)
  clear B hD0 hlocks hr
  generalize ([.ref (E.2.1 0)] : List Value).toArray = args at htb hret ⊢
  clear hAe
  have hL43 : ∀ (m : bp_M), bm_M_parameters_L43 N m = some mr → ∀ (ls : Array Slot) (H : Heap) (locs : List Loc), lv_has ls 3 [] → va_P E.1 bp_cl (bm_W E m) H → va_D A (bm_W E m) → va_S A s.heap H locs → W p l e ({ frames := 2, cells := 0, slots := 0, locals := 50 }) s mt args below meth c H locs 0 0 Q (F0 mt 43 ls []) := by
    intro m h ls H locs hl hP hD hS
    rw [bm_M_parameters_L43] at h
    exact hret _ _ _ _ _ h hP hD hS (dt_bm_M_parameters 26 rfl)
  suffices hgo : ∀ (H : Heap) (locs : List Loc), va_P E.1 bp_cl (bm_W E m) H → va_D A (bm_W E m) → va_S A s.heap H locs → W p l e ({ frames := 2, cells := 0, slots := 0, locals := 50 }) s mt args below meth c H locs 0 0 Q (F0 mt 0 ls []) from hgo _ _ hP hD hS
  clear hP hD hS
  intro H locs hP hD hS
  unfold bm_M_parameters at h
  refine lv_aload_n hx hb (dt_bm_M_parameters 0 rfl) rfl (lv_at hl 0 rfl) ?_
  refine lv_iconst (v := 3) hx hb (dt_bm_M_parameters 1 rfl) (by decide) ?_
  refine lv_iconst (v := 5) hx hb (dt_bm_M_parameters 2 rfl) (by decide) ?_
  obtain ⟨z2, m1, hm1, h⟩ := bp_cI_s h
  refine bm_callI E hsub hS (va_runV (As := [.int 3, .int 5]) (rest := []) ⟨hx, hb, hml, hown, htb⟩ (wbm_M_number l E N 3 5 m H.size z2 m1 hm1) (cwV 2 htb (bp_goodV tw_940 tw_942 tw_38 tw_79 tw_943) rfl rfl rfl ⟨rfl, hd_bm_M_number⟩ ⟨Nat.le_of_ble_eq_true rfl, Nat.le_of_ble_eq_true rfl⟩) (bm_preV E hsub hst hK hP hD hS (bm_gM E m) rfl rfl _) rfl rfl hl.1 rfl (lv_room (Nat.le_of_ble_eq_true rfl)) (dt_bm_M_parameters 3 rfl) ⟨Nat.zero_le _, Nat.zero_le _⟩) (fun H locs hP hD hS => ?_)
  refine lv_istore_n hx hb (dt_bm_M_parameters 4 rfl) rfl hl (Nat.le_of_ble_eq_true rfl) rfl (fun ls hl => ?_)
  have hl : lv_has ls 3 [(1, .int z2), (0, .ref (E.2.1 0))] := hl
  refine lv_aload_n hx hb (dt_bm_M_parameters 5 rfl) rfl (lv_at hl 1 rfl) ?_
  refine lv_bipush (v := 11) hx hb (dt_bm_M_parameters 6 rfl) (by decide) ?_
  refine lv_iconst (v := 5) hx hb (dt_bm_M_parameters 7 rfl) (by decide) ?_
  obtain ⟨z4, m3, hm3, h⟩ := bp_cI_s h
  refine bm_callI E hsub hS (va_runV (As := [.int 11, .int 5]) (rest := []) ⟨hx, hb, hml, hown, htb⟩ (wbm_M_number l E N 11 5 m1 H.size z4 m3 hm3) (cwV 2 htb (bp_goodV tw_940 tw_942 tw_38 tw_79 tw_943) rfl rfl rfl ⟨rfl, hd_bm_M_number⟩ ⟨Nat.le_of_ble_eq_true rfl, Nat.le_of_ble_eq_true rfl⟩) (bm_preV E hsub hst hK hP hD hS (bm_gM E m1) rfl rfl _) rfl rfl hl.1 rfl (lv_room (Nat.le_of_ble_eq_true rfl)) (dt_bm_M_parameters 8 rfl) ⟨Nat.zero_le _, Nat.zero_le _⟩) (fun H locs hP hD hS => ?_)
  refine lv_istore_n hx hb (dt_bm_M_parameters 9 rfl) rfl hl (Nat.le_of_ble_eq_true rfl) rfl (fun ls hl => ?_)
  have hl : lv_has ls 3 [(2, .int z4), (1, .int z2), (0, .ref (E.2.1 0))] := hl
  refine lv_aload_n hx hb (dt_bm_M_parameters 10 rfl) rfl (lv_at hl 2 rfl) ?_
  obtain ⟨m5, hm5, h⟩ := bp_cV_s h
  refine bm_callV E hsub hS (va_runV (As := []) (rest := []) ⟨hx, hb, hml, hown, htb⟩ (wbm_M_toEnd l E N  m3 H.size m5 hm5) (cwV 0 htb (bp_goodV tw_948 tw_950 tw_40 tw_79 tw_951) rfl rfl rfl ⟨rfl, hd_bm_M_toEnd⟩ ⟨Nat.le_of_ble_eq_true rfl, Nat.le_of_ble_eq_true rfl⟩) (bm_preV E hsub hst hK hP hD hS (bm_gM E m3) rfl rfl _) rfl rfl hl.1 rfl (lv_room (Nat.le_of_ble_eq_true rfl)) (dt_bm_M_parameters 11 rfl) ⟨Nat.zero_le _, Nat.zero_le _⟩) (fun H locs hP hD hS => ?_)
  refine lv_aload_n hx hb (dt_bm_M_parameters 12 rfl) rfl (lv_at hl 2 rfl) ?_
  refine va_get (D := E.1) (ci := 10) (v := .int (m5.1 0 12)) (C := "BlockPicturesModel") (T := bF_M) (N := 48) hx hb htb bm_in_M hown hK hP 0 (bm_gM E m5) rfl 12 (by decide) (htb _ tw_780) (fun _ h9 => h9) rfl (dt_bm_M_parameters 13 rfl) ?_
  refine lv_if_ne (tgt := 43) hx hb (dt_bm_M_parameters 14 rfl) (by decide) (fun hc => ?_) (fun hc => ?_)
  · replace h := (if_pos hc).symm.trans h
    exact hL43 _ h ls H locs (lv_sub hl [] rfl) hP hD hS
  · replace h := (if_neg (fun hn => hn hc)).symm.trans h
    refine lv_aload_n hx hb (dt_bm_M_parameters 15 rfl) rfl (lv_at hl 2 rfl) ?_
    refine lv_iconst (v := 1) hx hb (dt_bm_M_parameters 16 rfl) (by decide) ?_
    obtain ⟨hg7, h⟩ := bp_g_s h
    refine bm_pM_13 E hx hb htb hown hK hP hD hS hg7 (htb _ tw_781) (dt_bm_M_parameters 17 rfl) (fun m6 em6 H locs hP hD hS => ?_)
    replace h := bp_nM_s h em6
    refine lv_aload_n hx hb (dt_bm_M_parameters 18 rfl) rfl (lv_at hl 2 rfl) ?_
    refine lv_iload_n hx hb (dt_bm_M_parameters 19 rfl) rfl (lv_at hl 1 rfl) ?_
    refine lv_iconst (v := 1) hx hb (dt_bm_M_parameters 20 rfl) (by decide) ?_
    refine lv_iadd hx hb (dt_bm_M_parameters 21 rfl) ?_
    refine bm_pM_14 E hx hb htb hown hK hP hD hS (htb _ tw_782) (dt_bm_M_parameters 22 rfl) (fun m8 em8 H locs hP hD hS => ?_)
    replace h := bp_nM_s h em8
    refine lv_aload_n hx hb (dt_bm_M_parameters 23 rfl) rfl (lv_at hl 2 rfl) ?_
    refine lv_iload_n hx hb (dt_bm_M_parameters 24 rfl) rfl (lv_at hl 0 rfl) ?_
    refine bm_pM_15 E hx hb htb hown hK hP hD hS (htb _ tw_783) (dt_bm_M_parameters 25 rfl) (fun m9 em9 H locs hP hD hS => ?_)
    replace h := bp_nM_s h em9
    exact hL43 _ h ls H locs (lv_sub hl [] rfl) hP hD hS
set_option maxHeartbeats 4000000 in
set_option maxRecDepth 100000 in
theorem wbm_M_references (l : Launch) (E : bm_E) (N : Nat)  (m : bp_M) (sz : Nat) (r : Int32) (mr : bp_M)  (h : bm_M_references N m = some (r, mr)) : Met l y_bm_M_references (Cond.code y_bm_M_references prog_13_method_17_code 3 (some .int) :: bp_tb) ({ frames := 0, cells := 0, slots := 0, locals := 0 }) (bm_Pc E m sz [.ref (E.2.1 0)]) (bm_Qi E m sz r mr) 0 0 (va_A (bm_W E m) sz) := by
  refine Met.ofW (cc := prog_13_method_17_code) (maxL := 3) (ret := (some .int)) (by decide) rfl ?_
  intro p e s mt args below meth c s₁ B hml hv
  obtain ⟨rfl, hsz, hP, hK, hD0, hst⟩ := hv
  have hx := B.exec
  have hb := B.bytes
  have hr := B.returns
  have htb : ∀ w ∈ bp_tb, w.before _ s = true := fun w hw => atoms_spec (ws := Cond.code y_bm_M_references prog_13_method_17_code 3 (some .int) :: bp_tb) B.pre w (List.mem_cons_of_mem _ hw)
  have hown : s.vm.findClass "BlockPicturesModel" = some mt.cls := findClass_of_methodNamed B.named
  have hlocks := B.notSynchronized
  subst hsz
  have hD := hD0.self (sz := s.heap.size)
  generalize hAe : va_A (bm_W E m) s.heap.size = A at hD hst ⊢
  have hsub : ∀ (u : bp_M) (z q : Nat), s.heap.size ≤ z → va_A (bm_W E u) z q → A q := bm_sub hAe
  have hS : va_S A s.heap s.heap [] := va_S.rf
  have hl := lv_entry ([.ref (E.2.1 0)]) (n := 3) (Nat.le_of_ble_eq_true rfl)
  rw [lg_entry_eq]
  generalize (lg_sl ([.ref (E.2.1 0)]) ++ List.replicate (3 - (lg_sl ([.ref (E.2.1 0)])).length) Slot.unset).toArray = ls at hl ⊢
  have hl : lv_has ls 3 [(0, .ref (E.2.1 0))] := hl
  refine bm_keyI (R := ({ frames := 0, cells := 0, slots := 0, locals := 0 })) E hx hb hr hlocks hK hAe (fun Q hret => ?_)
  clear B hD0 hlocks hr
  generalize ([.ref (E.2.1 0)] : List Value).toArray = args at htb hret ⊢
  clear hAe
  have hL35 : ∀ (x1 : Int32) (m : bp_M), bm_M_references_L35 N x1 m = some (r, mr) → ∀ (ls : Array Slot) (H : Heap) (locs : List Loc), lv_has ls 3 [(1, .int x1)] → va_P E.1 bp_cl (bm_W E m) H → va_D A (bm_W E m) → va_S A s.heap H locs → W p l e ({ frames := 0, cells := 0, slots := 0, locals := 0 }) s mt args below meth c H locs 0 0 Q (F0 mt 35 ls []) := by
    intro x1 m h ls H locs hl hP hD hS
    rw [bm_M_references_L35] at h
    refine lv_iload_n hx hb (dt_bm_M_references 21 rfl) rfl (lv_at hl 0 rfl) ?_
    exact hret _ _ _ _ _ _ h hP hD hS (dt_bm_M_references 22 rfl)
  have hL4 : ∀ (n4 : Nat) (x1 : Int32) (x2 : Int32) (m : bp_M), bm_M_references_L4 N n4 x1 x2 m = some (r, mr) → ∀ (ls : Array Slot) (H : Heap) (locs : List Loc), lv_has ls 3 [(0, .ref (E.2.1 0)), (1, .int x1), (2, .int x2)] → va_P E.1 bp_cl (bm_W E m) H → va_D A (bm_W E m) → va_S A s.heap H locs → W p l e ({ frames := 0, cells := 0, slots := 0, locals := 0 }) s mt args below meth c H locs 0 0 Q (F0 mt 4 ls []) := by
    intro n4
    induction n4 with
    | zero =>
      intro x1 x2 m h ls H locs hl hP hD hS
      rw [bm_M_references_L4] at h
      cases h
    | succ n4 ih4 =>
      have hL27 : ∀ (x2 : Int32) (s0 : Int32) (s1 : Int32) (m : bp_M), bm_M_references_L27 (bm_M_references_L4 N n4) N x2 s0 s1 m = some (r, mr) → ∀ (ls : Array Slot) (H : Heap) (locs : List Loc), lv_has ls 3 [(0, .ref (E.2.1 0)), (2, .int x2)] → va_P E.1 bp_cl (bm_W E m) H → va_D A (bm_W E m) → va_S A s.heap H locs → W p l e ({ frames := 0, cells := 0, slots := 0, locals := 0 }) s mt args below meth c H locs 0 0 Q (F0 mt 27 ls [.int s0, .int s1]) := by
        intro x2 s0 s1 m h ls H locs hl hP hD hS
        rw [bm_M_references_L27] at h
        refine lv_iadd hx hb (dt_bm_M_references 17 rfl) ?_
        refine lv_topi (fun y1 ey1 => ?_)
        replace h := bp_nI_s h ey1
        refine lv_istore_n hx hb (dt_bm_M_references 18 rfl) rfl hl (Nat.le_of_ble_eq_true rfl) rfl (fun ls hl => ?_)
        have hl : lv_has ls 3 [(1, .int y1), (0, .ref (E.2.1 0)), (2, .int x2)] := hl
        obtain ⟨y2, ey2⟩ : ∃ z : Int32, z = x2 + 1 := ⟨_, rfl⟩
        replace h := bp_nI_s h ey2
        refine lv_iinc (k := 2) (v := y2) hx hb (dt_bm_M_references 19 rfl) hl rfl (by rw [ey2]; rfl) (Nat.le_of_ble_eq_true rfl) rfl (fun ls hl => ?_)
        have hl : lv_has ls 3 [(2, .int y2), (1, .int y1), (0, .ref (E.2.1 0))] := hl
        refine lv_goto (tgt := 4) hx hb (dt_bm_M_references 20 rfl) (by decide) ?_
        exact ih4 _ _ _ h ls H locs (lv_sub hl [2, 1, 0] rfl) hP hD hS
      intro x1 x2 m h ls H locs hl hP hD hS
      rw [bm_M_references_L4] at h
      refine lv_iload_n hx hb (dt_bm_M_references 4 rfl) rfl (lv_at hl 2 rfl) ?_
      refine lv_aload_n hx hb (dt_bm_M_references 5 rfl) rfl (lv_at hl 0 rfl) ?_
      refine va_get (D := E.1) (ci := 10) (v := .int (m.1 0 34)) (C := "BlockPicturesModel") (T := bF_M) (N := 48) hx hb htb bm_in_M hown hK hP 0 (bm_gM E m) rfl 34 (by decide) (htb _ tw_802) (fun _ h9 => h9) rfl (dt_bm_M_references 6 rfl) ?_
      refine lv_icmp_ge (tgt := 35) hx hb (dt_bm_M_references 7 rfl) (by decide) (fun hc => ?_) (fun hc => ?_)
      · replace h := (if_pos hc).symm.trans h
        exact hL35 _ _ h ls H locs (lv_sub hl [1] rfl) hP hD hS
      · replace h := (if_neg hc).symm.trans h
        refine lv_iload_n hx hb (dt_bm_M_references 8 rfl) rfl (lv_at hl 1 rfl) ?_
        refine lv_aload_n hx hb (dt_bm_M_references 9 rfl) rfl (lv_at hl 0 rfl) ?_
        refine va_get (D := E.1) (ci := 10) (v := .ref (E.2.1 15)) (C := "BlockPicturesModel") (T := bF_M) (N := 48) hx hb htb bm_in_M hown hK hP 0 (bm_gM E m) rfl 37 (by decide) (htb _ tw_805) (fun _ h9 => h9) rfl (dt_bm_M_references 10 rfl) ?_
        refine lv_iload_n hx hb (dt_bm_M_references 11 rfl) rfl (lv_at hl 2 rfl) ?_
        obtain ⟨hg1, h⟩ := bp_gi_s h
        refine bm_lZ E hx hb hK hP (bm_ga15 E) hg1 (dt_bm_M_references 12 rfl) ?_
        refine lv_if_eq (tgt := 26) hx hb (dt_bm_M_references 13 rfl) (by decide) (fun hc => ?_) (fun hc => ?_)
        · replace h := (if_pos hc).symm.trans h
          refine lv_iconst (v := 0) hx hb (dt_bm_M_references 16 rfl) (by decide) ?_
          exact hL27 _ _ _ _ h ls H locs (lv_sub hl [0, 2] rfl) hP hD hS
        · replace h := (if_neg hc).symm.trans h
          refine lv_iconst (v := 1) hx hb (dt_bm_M_references 14 rfl) (by decide) ?_
          refine lv_goto (tgt := 27) hx hb (dt_bm_M_references 15 rfl) (by decide) ?_
          exact hL27 _ _ _ _ h ls H locs (lv_sub hl [0, 2] rfl) hP hD hS
  suffices hgo : ∀ (H : Heap) (locs : List Loc), va_P E.1 bp_cl (bm_W E m) H → va_D A (bm_W E m) → va_S A s.heap H locs → W p l e ({ frames := 0, cells := 0, slots := 0, locals := 0 }) s mt args below meth c H locs 0 0 Q (F0 mt 0 ls []) from hgo _ _ hP hD hS
  clear hP hD hS
  intro H locs hP hD hS
  unfold bm_M_references at h
  refine lv_iconst (v := 0) hx hb (dt_bm_M_references 0 rfl) (by decide) ?_
  refine lv_istore_n hx hb (dt_bm_M_references 1 rfl) rfl hl (Nat.le_of_ble_eq_true rfl) rfl (fun ls hl => ?_)
  have hl : lv_has ls 3 [(1, .int 0), (0, .ref (E.2.1 0))] := hl
  refine lv_iconst (v := 0) hx hb (dt_bm_M_references 2 rfl) (by decide) ?_
  refine lv_istore_n hx hb (dt_bm_M_references 3 rfl) rfl hl (Nat.le_of_ble_eq_true rfl) rfl (fun ls hl => ?_)
  have hl : lv_has ls 3 [(2, .int 0), (1, .int 0), (0, .ref (E.2.1 0))] := hl
  exact hL4 _ _ _ _ h ls H locs (lv_sub hl [2, 1, 0] rfl) hP hD hS
set_option maxHeartbeats 4000000 in
set_option maxRecDepth 100000 in
theorem wbm_M_signed (l : Launch) (E : bm_E) (N : Nat)  (m : bp_M) (sz : Nat) (r : Int32) (mr : bp_M)  (h : bm_M_signed N m = some (r, mr)) : Met l y_bm_M_signed (Cond.code y_bm_M_signed prog_13_method_13_code 2 (some .int) :: bp_tb) ({ frames := 2, cells := 0, slots := 0, locals := 50 }) (bm_Pc E m sz [.ref (E.2.1 0)]) (bm_Qi E m sz r mr) 0 0 (va_A (bm_W E m) sz) := by
  refine Met.ofW (cc := prog_13_method_13_code) (maxL := 2) (ret := (some .int)) (by decide) rfl ?_
  intro p e s mt args below meth c s₁ B hml hv
  obtain ⟨rfl, hsz, hP, hK, hD0, hst⟩ := hv
  have hx := B.exec
  have hb := B.bytes
  have hr := B.returns
  have htb : ∀ w ∈ bp_tb, w.before _ s = true := fun w hw => atoms_spec (ws := Cond.code y_bm_M_signed prog_13_method_13_code 2 (some .int) :: bp_tb) B.pre w (List.mem_cons_of_mem _ hw)
  have hown : s.vm.findClass "BlockPicturesModel" = some mt.cls := findClass_of_methodNamed B.named
  have hlocks := B.notSynchronized
  subst hsz
  have hD := hD0.self (sz := s.heap.size)
  generalize hAe : va_A (bm_W E m) s.heap.size = A at hD hst ⊢
  have hsub : ∀ (u : bp_M) (z q : Nat), s.heap.size ≤ z → va_A (bm_W E u) z q → A q := bm_sub hAe
  have hS : va_S A s.heap s.heap [] := va_S.rf
  have hl := lv_entry ([.ref (E.2.1 0)]) (n := 2) (Nat.le_of_ble_eq_true rfl)
  rw [lg_entry_eq]
  generalize (lg_sl ([.ref (E.2.1 0)]) ++ List.replicate (2 - (lg_sl ([.ref (E.2.1 0)])).length) Slot.unset).toArray = ls at hl ⊢
  have hl : lv_has ls 2 [(0, .ref (E.2.1 0))] := hl
  refine bm_keyI (R := ({ frames := 2, cells := 0, slots := 0, locals := 50 })) E hx hb hr hlocks hK hAe (fun Q hret => ?_)
  clear B hD0 hlocks hr
  generalize ([.ref (E.2.1 0)] : List Value).toArray = args at htb hret ⊢
  clear hAe
  have hL28 : ∀ (s0 : Int32) (m : bp_M), bm_M_signed_L28 N s0 m = some (r, mr) → ∀ (ls : Array Slot) (H : Heap) (locs : List Loc), lv_has ls 2 [] → va_P E.1 bp_cl (bm_W E m) H → va_D A (bm_W E m) → va_S A s.heap H locs → W p l e ({ frames := 2, cells := 0, slots := 0, locals := 50 }) s mt args below meth c H locs 0 0 Q (F0 mt 28 ls [.int s0]) := by
    intro s0 m h ls H locs hl hP hD hS
    rw [bm_M_signed_L28] at h
    exact hret _ _ _ _ _ _ h hP hD hS (dt_bm_M_signed 20 rfl)
  suffices hgo : ∀ (H : Heap) (locs : List Loc), va_P E.1 bp_cl (bm_W E m) H → va_D A (bm_W E m) → va_S A s.heap H locs → W p l e ({ frames := 2, cells := 0, slots := 0, locals := 50 }) s mt args below meth c H locs 0 0 Q (F0 mt 0 ls []) from hgo _ _ hP hD hS
  clear hP hD hS
  intro H locs hP hD hS
  unfold bm_M_signed at h
  refine lv_aload_n hx hb (dt_bm_M_signed 0 rfl) rfl (lv_at hl 0 rfl) ?_
  refine lv_sipush (v := 5000) hx hb (dt_bm_M_signed 1 rfl) (by decide) ?_
  refine lv_iconst (v := 5) hx hb (dt_bm_M_signed 2 rfl) (by decide) ?_
  obtain ⟨z2, m1, hm1, h⟩ := bp_cI_s h
  refine bm_callI E hsub hS (va_runV (As := [.int 5000, .int 5]) (rest := []) ⟨hx, hb, hml, hown, htb⟩ (wbm_M_number l E N 5000 5 m H.size z2 m1 hm1) (cwV 2 htb (bp_goodV tw_940 tw_942 tw_38 tw_79 tw_943) rfl rfl rfl ⟨rfl, hd_bm_M_number⟩ ⟨Nat.le_of_ble_eq_true rfl, Nat.le_of_ble_eq_true rfl⟩) (bm_preV E hsub hst hK hP hD hS (bm_gM E m) rfl rfl _) rfl rfl hl.1 rfl (lv_room (Nat.le_of_ble_eq_true rfl)) (dt_bm_M_signed 3 rfl) ⟨Nat.zero_le _, Nat.zero_le _⟩) (fun H locs hP hD hS => ?_)
  refine lv_istore_n hx hb (dt_bm_M_signed 4 rfl) rfl hl (Nat.le_of_ble_eq_true rfl) rfl (fun ls hl => ?_)
  have hl : lv_has ls 2 [(1, .int z2), (0, .ref (E.2.1 0))] := hl
  refine lv_iload_n hx hb (dt_bm_M_signed 5 rfl) rfl (lv_at hl 0 rfl) ?_
  refine lv_iconst (v := 2) hx hb (dt_bm_M_signed 6 rfl) (by decide) ?_
  refine lv_irem hx hb (dt_bm_M_signed 7 rfl) (by decide) ?_
  refine lv_iconst (v := 1) hx hb (dt_bm_M_signed 8 rfl) (by decide) ?_
  refine lv_icmp_ne (tgt := 24) hx hb (dt_bm_M_signed 9 rfl) (by decide) (fun hc => ?_) (fun hc => ?_)
  · replace h := (if_pos hc).symm.trans h
    refine lv_iload_n hx hb (dt_bm_M_signed 16 rfl) rfl (lv_at hl 0 rfl) ?_
    refine lv_iconst (v := 2) hx hb (dt_bm_M_signed 17 rfl) (by decide) ?_
    refine lv_idiv hx hb (dt_bm_M_signed 18 rfl) (by decide) ?_
    refine lv_ineg hx hb (dt_bm_M_signed 19 rfl) ?_
    exact hL28 _ _ h ls H locs (lv_sub hl [] rfl) hP hD hS
  · replace h := (if_neg (fun hn => hn hc)).symm.trans h
    refine lv_iload_n hx hb (dt_bm_M_signed 10 rfl) rfl (lv_at hl 0 rfl) ?_
    refine lv_iconst (v := 1) hx hb (dt_bm_M_signed 11 rfl) (by decide) ?_
    refine lv_iadd hx hb (dt_bm_M_signed 12 rfl) ?_
    refine lv_iconst (v := 2) hx hb (dt_bm_M_signed 13 rfl) (by decide) ?_
    refine lv_idiv hx hb (dt_bm_M_signed 14 rfl) (by decide) ?_
    refine lv_goto (tgt := 28) hx hb (dt_bm_M_signed 15 rfl) (by decide) ?_
    exact hL28 _ _ h ls H locs (lv_sub hl [] rfl) hP hD hS
set_option maxHeartbeats 4000000 in
set_option maxRecDepth 100000 in
theorem wbm_M_middle (l : Launch) (E : bm_E) (N : Nat) (a0 : Int32) (a1 : Int32) (a2 : Int32) (m : bp_M) (sz : Nat) (r : Int32) (mr : bp_M)  (h : bm_M_middle N a0 a1 a2 m = some (r, mr)) : Met l y_bm_M_middle (Cond.code y_bm_M_middle prog_13_method_24_code 5 (some .int) :: bp_tb) ({ frames := 0, cells := 0, slots := 0, locals := 0 }) (bm_Pc E m sz [.int a0, .int a1, .int a2]) (bm_Qi E m sz r mr) 0 0 (va_A (bm_W E m) sz) := by
  refine Met.ofW (cc := prog_13_method_24_code) (maxL := 5) (ret := (some .int)) (by decide) rfl ?_
  intro p e s mt args below meth c s₁ B hml hv
  obtain ⟨rfl, hsz, hP, hK, hD0, hst⟩ := hv
  have hx := B.exec
  have hb := B.bytes
  have hr := B.returns
  have htb : ∀ w ∈ bp_tb, w.before _ s = true := fun w hw => atoms_spec (ws := Cond.code y_bm_M_middle prog_13_method_24_code 5 (some .int) :: bp_tb) B.pre w (List.mem_cons_of_mem _ hw)
  have hown : s.vm.findClass "BlockPicturesModel" = some mt.cls := findClass_of_methodNamed B.named
  have hlocks := B.notSynchronized
  subst hsz
  have hD := hD0.self (sz := s.heap.size)
  generalize hAe : va_A (bm_W E m) s.heap.size = A at hD hst ⊢
  have hsub : ∀ (u : bp_M) (z q : Nat), s.heap.size ≤ z → va_A (bm_W E u) z q → A q := bm_sub hAe
  have hS : va_S A s.heap s.heap [] := va_S.rf
  have hl := lv_entry ([.int a0, .int a1, .int a2]) (n := 5) (Nat.le_of_ble_eq_true rfl)
  rw [lg_entry_eq]
  generalize (lg_sl ([.int a0, .int a1, .int a2]) ++ List.replicate (5 - (lg_sl ([.int a0, .int a1, .int a2])).length) Slot.unset).toArray = ls at hl ⊢
  have hl : lv_has ls 5 [(0, .int a0), (1, .int a1), (2, .int a2)] := hl
  refine bm_keyI (R := ({ frames := 0, cells := 0, slots := 0, locals := 0 })) E hx hb hr hlocks hK hAe (fun Q hret => ?_)
  clear B hD0 hlocks hr
  generalize ([.int a0, .int a1, .int a2] : List Value).toArray = args at htb hret ⊢
  clear hAe
  have hL44 : ∀ (s0 : Int32) (m : bp_M), bm_M_middle_L44 N a0 a1 a2 s0 m = some (r, mr) → ∀ (ls : Array Slot) (H : Heap) (locs : List Loc), lv_has ls 5 [] → va_P E.1 bp_cl (bm_W E m) H → va_D A (bm_W E m) → va_S A s.heap H locs → W p l e ({ frames := 0, cells := 0, slots := 0, locals := 0 }) s mt args below meth c H locs 0 0 Q (F0 mt 44 ls [.int s0]) := by
    intro s0 m h ls H locs hl hP hD hS
    rw [bm_M_middle_L44] at h
    exact hret _ _ _ _ _ _ h hP hD hS (dt_bm_M_middle 25 rfl)
  have hL21 : ∀ (x3 : Int32) (s0 : Int32) (m : bp_M), bm_M_middle_L21 N a0 a1 a2 x3 s0 m = some (r, mr) → ∀ (ls : Array Slot) (H : Heap) (locs : List Loc), lv_has ls 5 [(2, .int a2), (3, .int x3)] → va_P E.1 bp_cl (bm_W E m) H → va_D A (bm_W E m) → va_S A s.heap H locs → W p l e ({ frames := 0, cells := 0, slots := 0, locals := 0 }) s mt args below meth c H locs 0 0 Q (F0 mt 21 ls [.int s0]) := by
    intro x3 s0 m h ls H locs hl hP hD hS
    rw [bm_M_middle_L21] at h
    refine lv_istore hx hb (dt_bm_M_middle 13 rfl) hl (Nat.le_of_ble_eq_true rfl) rfl (fun ls hl => ?_)
    have hl : lv_has ls 5 [(4, .int s0), (2, .int a2), (3, .int x3)] := hl
    refine lv_iload_n hx hb (dt_bm_M_middle 14 rfl) rfl (lv_at hl 1 rfl) ?_
    refine lv_iload_n hx hb (dt_bm_M_middle 15 rfl) rfl (lv_at hl 2 rfl) ?_
    refine lv_icmp_ge (tgt := 32) hx hb (dt_bm_M_middle 16 rfl) (by decide) (fun hc => ?_) (fun hc => ?_)
    · replace h := (if_pos hc).symm.trans h
      refine lv_iload_n hx hb (dt_bm_M_middle 19 rfl) rfl (lv_at hl 1 rfl) ?_
      refine lv_iload hx hb (dt_bm_M_middle 20 rfl) (lv_at hl 0 rfl) ?_
      refine lv_icmp_le (tgt := 43) hx hb (dt_bm_M_middle 21 rfl) (by decide) (fun hc => ?_) (fun hc => ?_)
      · replace h := (if_pos hc).symm.trans h
        refine lv_iload_n hx hb (dt_bm_M_middle 24 rfl) rfl (lv_at hl 1 rfl) ?_
        exact hL44 _ _ h ls H locs (lv_sub hl [] rfl) hP hD hS
      · replace h := (if_neg hc).symm.trans h
        refine lv_iload hx hb (dt_bm_M_middle 22 rfl) (lv_at hl 0 rfl) ?_
        refine lv_goto (tgt := 44) hx hb (dt_bm_M_middle 23 rfl) (by decide) ?_
        exact hL44 _ _ h ls H locs (lv_sub hl [] rfl) hP hD hS
    · replace h := (if_neg hc).symm.trans h
      refine lv_iload_n hx hb (dt_bm_M_middle 17 rfl) rfl (lv_at hl 2 rfl) ?_
      refine lv_goto (tgt := 44) hx hb (dt_bm_M_middle 18 rfl) (by decide) ?_
      exact hL44 _ _ h ls H locs (lv_sub hl [] rfl) hP hD hS
  have hL10 : ∀ (s0 : Int32) (m : bp_M), bm_M_middle_L10 N a0 a1 a2 s0 m = some (r, mr) → ∀ (ls : Array Slot) (H : Heap) (locs : List Loc), lv_has ls 5 [(0, .int a0), (1, .int a1), (2, .int a2)] → va_P E.1 bp_cl (bm_W E m) H → va_D A (bm_W E m) → va_S A s.heap H locs → W p l e ({ frames := 0, cells := 0, slots := 0, locals := 0 }) s mt args below meth c H locs 0 0 Q (F0 mt 10 ls [.int s0]) := by
    intro s0 m h ls H locs hl hP hD hS
    rw [bm_M_middle_L10] at h
    refine lv_istore_n hx hb (dt_bm_M_middle 6 rfl) rfl hl (Nat.le_of_ble_eq_true rfl) rfl (fun ls hl => ?_)
    have hl : lv_has ls 5 [(3, .int s0), (0, .int a0), (1, .int a1), (2, .int a2)] := hl
    refine lv_iload_n hx hb (dt_bm_M_middle 7 rfl) rfl (lv_at hl 1 rfl) ?_
    refine lv_iload_n hx hb (dt_bm_M_middle 8 rfl) rfl (lv_at hl 2 rfl) ?_
    refine lv_icmp_ge (tgt := 20) hx hb (dt_bm_M_middle 9 rfl) (by decide) (fun hc => ?_) (fun hc => ?_)
    · replace h := (if_pos hc).symm.trans h
      refine lv_iload_n hx hb (dt_bm_M_middle 12 rfl) rfl (lv_at hl 1 rfl) ?_
      exact hL21 _ _ _ h ls H locs (lv_sub hl [3, 0] rfl) hP hD hS
    · replace h := (if_neg hc).symm.trans h
      refine lv_iload_n hx hb (dt_bm_M_middle 10 rfl) rfl (lv_at hl 2 rfl) ?_
      refine lv_goto (tgt := 21) hx hb (dt_bm_M_middle 11 rfl) (by decide) ?_
      exact hL21 _ _ _ h ls H locs (lv_sub hl [3, 0] rfl) hP hD hS
  suffices hgo : ∀ (H : Heap) (locs : List Loc), va_P E.1 bp_cl (bm_W E m) H → va_D A (bm_W E m) → va_S A s.heap H locs → W p l e ({ frames := 0, cells := 0, slots := 0, locals := 0 }) s mt args below meth c H locs 0 0 Q (F0 mt 0 ls []) from hgo _ _ hP hD hS
  clear hP hD hS
  intro H locs hP hD hS
  unfold bm_M_middle at h
  refine lv_iload_n hx hb (dt_bm_M_middle 0 rfl) rfl (lv_at hl 0 rfl) ?_
  refine lv_iload_n hx hb (dt_bm_M_middle 1 rfl) rfl (lv_at hl 1 rfl) ?_
  refine lv_icmp_ge (tgt := 9) hx hb (dt_bm_M_middle 2 rfl) (by decide) (fun hc => ?_) (fun hc => ?_)
  · replace h := (if_pos hc).symm.trans h
    refine lv_iload_n hx hb (dt_bm_M_middle 5 rfl) rfl (lv_at hl 1 rfl) ?_
    exact hL10 _ _ h ls H locs (lv_sub hl [0, 1, 2] rfl) hP hD hS
  · replace h := (if_neg hc).symm.trans h
    refine lv_iload_n hx hb (dt_bm_M_middle 3 rfl) rfl (lv_at hl 0 rfl) ?_
    refine lv_goto (tgt := 10) hx hb (dt_bm_M_middle 4 rfl) (by decide) ?_
    exact hL10 _ _ h ls H locs (lv_sub hl [0, 1, 2] rfl) hP hD hS
set_option maxHeartbeats 4000000 in
set_option maxRecDepth 100000 in
theorem wbm_M_guessed (l : Launch) (E : bm_E) (N : Nat) (a1 : Int32) (a2 : Int32) (m : bp_M) (sz : Nat) (r : Int32) (mr : bp_M)  (h : bm_M_guessed N a1 a2 m = some (r, mr)) : Met l y_bm_M_guessed (Cond.code y_bm_M_guessed prog_13_method_25_code 7 (some .int) :: bp_tb) ({ frames := 1, cells := 0, slots := 0, locals := 24 }) (bm_Pc E m sz [.ref (E.2.1 0), .int a1, .int a2]) (bm_Qi E m sz r mr) 0 0 (va_A (bm_W E m) sz) := by
  refine Met.ofW (cc := prog_13_method_25_code) (maxL := 7) (ret := (some .int)) (by decide) rfl ?_
  intro p e s mt args below meth c s₁ B hml hv
  obtain ⟨rfl, hsz, hP, hK, hD0, hst⟩ := hv
  have hx := B.exec
  have hb := B.bytes
  have hr := B.returns
  have htb : ∀ w ∈ bp_tb, w.before _ s = true := fun w hw => atoms_spec (ws := Cond.code y_bm_M_guessed prog_13_method_25_code 7 (some .int) :: bp_tb) B.pre w (List.mem_cons_of_mem _ hw)
  have hown : s.vm.findClass "BlockPicturesModel" = some mt.cls := findClass_of_methodNamed B.named
  have hlocks := B.notSynchronized
  subst hsz
  have hD := hD0.self (sz := s.heap.size)
  generalize hAe : va_A (bm_W E m) s.heap.size = A at hD hst ⊢
  have hsub : ∀ (u : bp_M) (z q : Nat), s.heap.size ≤ z → va_A (bm_W E u) z q → A q := bm_sub hAe
  have hS : va_S A s.heap s.heap [] := va_S.rf
  have hl := lv_entry ([.ref (E.2.1 0), .int a1, .int a2]) (n := 7) (Nat.le_of_ble_eq_true rfl)
  rw [lg_entry_eq]
  generalize (lg_sl ([.ref (E.2.1 0), .int a1, .int a2]) ++ List.replicate (7 - (lg_sl ([.ref (E.2.1 0), .int a1, .int a2])).length) Slot.unset).toArray = ls at hl ⊢
  have hl : lv_has ls 7 [(0, .ref (E.2.1 0)), (1, .int a1), (2, .int a2)] := hl
  refine bm_keyI (R := ({ frames := 1, cells := 0, slots := 0, locals := 24 })) E hx hb hr hlocks hK hAe (fun Q hret => ?_)
  clear B hD0 hlocks hr
  generalize ([.ref (E.2.1 0), .int a1, .int a2] : List Value).toArray = args at htb hret ⊢
  clear hAe
  have hL105 : ∀ (x3 : Int32) (x5 : Int32) (s0 : Int32) (m : bp_M), bm_M_guessed_L105 N a1 a2 x3 x5 s0 m = some (r, mr) → ∀ (ls : Array Slot) (H : Heap) (locs : List Loc), lv_has ls 7 [(3, .int x3), (5, .int x5)] → va_P E.1 bp_cl (bm_W E m) H → va_D A (bm_W E m) → va_S A s.heap H locs → W p l e ({ frames := 1, cells := 0, slots := 0, locals := 24 }) s mt args below meth c H locs 0 0 Q (F0 mt 105 ls [.int s0]) := by
    intro x3 x5 s0 m h ls H locs hl hP hD hS
    rw [bm_M_guessed_L105] at h
    refine lv_istore hx hb (dt_bm_M_guessed 67 rfl) hl (Nat.le_of_ble_eq_true rfl) rfl (fun ls hl => ?_)
    have hl : lv_has ls 7 [(6, .int s0), (3, .int x3), (5, .int x5)] := hl
    refine lv_iload_n hx hb (dt_bm_M_guessed 68 rfl) rfl (lv_at hl 1 rfl) ?_
    refine lv_iload hx hb (dt_bm_M_guessed 69 rfl) (lv_at hl 2 rfl) ?_
    refine lv_iload hx hb (dt_bm_M_guessed 70 rfl) (lv_at hl 0 rfl) ?_
    obtain ⟨z2, m1, hm1, h⟩ := bp_cI_s h
    refine bm_callI E hsub hS (va_runS (As := [.int x3, .int x5, .int s0]) (rest := []) ⟨hx, hb, hml, hown, htb⟩ (wbm_M_middle l E N x3 x5 s0 m H.size z2 m1 hm1) (va_cwS 3 htb (bp_goodW tw_976 tw_977 tw_79 tw_978) rfl rfl rfl hd_bm_M_middle ⟨Nat.le_of_ble_eq_true rfl, Nat.le_of_ble_eq_true rfl⟩) (bm_preS E hsub hst hK hP hD hS _) rfl rfl hl.1 rfl (lv_room (Nat.le_of_ble_eq_true rfl)) (dt_bm_M_guessed 71 rfl) ⟨Nat.zero_le _, Nat.zero_le _⟩) (fun H locs hP hD hS => ?_)
    exact hret _ _ _ _ _ _ h hP hD hS (dt_bm_M_guessed 72 rfl)
  have hL82 : ∀ (x3 : Int32) (x4 : Int32) (s0 : Int32) (m : bp_M), bm_M_guessed_L82 N a1 a2 x3 x4 s0 m = some (r, mr) → ∀ (ls : Array Slot) (H : Heap) (locs : List Loc), lv_has ls 7 [(0, .ref (E.2.1 0)), (2, .int a2), (3, .int x3), (4, .int x4)] → va_P E.1 bp_cl (bm_W E m) H → va_D A (bm_W E m) → va_S A s.heap H locs → W p l e ({ frames := 1, cells := 0, slots := 0, locals := 24 }) s mt args below meth c H locs 0 0 Q (F0 mt 82 ls [.int s0]) := by
    intro x3 x4 s0 m h ls H locs hl hP hD hS
    rw [bm_M_guessed_L82] at h
    refine lv_istore hx hb (dt_bm_M_guessed 55 rfl) hl (Nat.le_of_ble_eq_true rfl) rfl (fun ls hl => ?_)
    have hl : lv_has ls 7 [(5, .int s0), (0, .ref (E.2.1 0)), (2, .int a2), (3, .int x3), (4, .int x4)] := hl
    refine lv_iload_n hx hb (dt_bm_M_guessed 56 rfl) rfl (lv_at hl 2 rfl) ?_
    refine lv_if_eq (tgt := 98) hx hb (dt_bm_M_guessed 57 rfl) (by decide) (fun hc => ?_) (fun hc => ?_)
    · replace h := (if_pos hc).symm.trans h
      refine lv_aload_n hx hb (dt_bm_M_guessed 63 rfl) rfl (lv_at hl 1 rfl) ?_
      refine va_get (D := E.1) (ci := 10) (v := .ref (E.2.1 8)) (C := "BlockPicturesModel") (T := bF_M) (N := 48) hx hb htb bm_in_M hown hK hP 0 (bm_gM E m) rfl 26 (by decide) (htb _ tw_794) (fun _ h9 => h9) rfl (dt_bm_M_guessed 64 rfl) ?_
      refine lv_iload hx hb (dt_bm_M_guessed 65 rfl) (lv_at hl 4 rfl) ?_
      obtain ⟨hg1, h⟩ := bp_gi_s h
      refine bm_lI E hx hb hK hP (bm_ga8 E) hg1 (dt_bm_M_guessed 66 rfl) ?_
      exact hL105 _ _ _ _ h ls H locs (lv_sub hl [3, 0] rfl) hP hD hS
    · replace h := (if_neg hc).symm.trans h
      refine lv_aload_n hx hb (dt_bm_M_guessed 58 rfl) rfl (lv_at hl 1 rfl) ?_
      refine va_get (D := E.1) (ci := 10) (v := .ref (E.2.1 9)) (C := "BlockPicturesModel") (T := bF_M) (N := 48) hx hb htb bm_in_M hown hK hP 0 (bm_gM E m) rfl 27 (by decide) (htb _ tw_795) (fun _ h9 => h9) rfl (dt_bm_M_guessed 59 rfl) ?_
      refine lv_iload hx hb (dt_bm_M_guessed 60 rfl) (lv_at hl 4 rfl) ?_
      obtain ⟨hg2, h⟩ := bp_gi_s h
      refine bm_lI E hx hb hK hP (bm_ga9 E) hg2 (dt_bm_M_guessed 61 rfl) ?_
      refine lv_goto (tgt := 105) hx hb (dt_bm_M_guessed 62 rfl) (by decide) ?_
      exact hL105 _ _ _ _ h ls H locs (lv_sub hl [3, 0] rfl) hP hD hS
  have hL57 : ∀ (x3 : Int32) (s0 : Int32) (m : bp_M), bm_M_guessed_L57 N a1 a2 x3 s0 m = some (r, mr) → ∀ (ls : Array Slot) (H : Heap) (locs : List Loc), lv_has ls 7 [(0, .ref (E.2.1 0)), (1, .int a1), (2, .int a2), (3, .int x3)] → va_P E.1 bp_cl (bm_W E m) H → va_D A (bm_W E m) → va_S A s.heap H locs → W p l e ({ frames := 1, cells := 0, slots := 0, locals := 24 }) s mt args below meth c H locs 0 0 Q (F0 mt 57 ls [.int s0]) := by
    intro x3 s0 m h ls H locs hl hP hD hS
    rw [bm_M_guessed_L57] at h
    refine lv_istore hx hb (dt_bm_M_guessed 39 rfl) hl (Nat.le_of_ble_eq_true rfl) rfl (fun ls hl => ?_)
    have hl : lv_has ls 7 [(4, .int s0), (0, .ref (E.2.1 0)), (1, .int a1), (2, .int a2), (3, .int x3)] := hl
    refine lv_iload_n hx hb (dt_bm_M_guessed 40 rfl) rfl (lv_at hl 3 rfl) ?_
    refine lv_if_eq (tgt := 74) hx hb (dt_bm_M_guessed 41 rfl) (by decide) (fun hc => ?_) (fun hc => ?_)
    · replace h := (if_pos hc).symm.trans h
      refine lv_aload_n hx hb (dt_bm_M_guessed 49 rfl) rfl (lv_at hl 1 rfl) ?_
      refine va_get (D := E.1) (ci := 10) (v := .ref (E.2.1 8)) (C := "BlockPicturesModel") (T := bF_M) (N := 48) hx hb htb bm_in_M hown hK hP 0 (bm_gM E m) rfl 26 (by decide) (htb _ tw_794) (fun _ h9 => h9) rfl (dt_bm_M_guessed 50 rfl) ?_
      refine lv_iload_n hx hb (dt_bm_M_guessed 51 rfl) rfl (lv_at hl 2 rfl) ?_
      refine lv_iconst (v := 4) hx hb (dt_bm_M_guessed 52 rfl) (by decide) ?_
      refine lv_isub hx hb (dt_bm_M_guessed 53 rfl) ?_
      obtain ⟨hg1, h⟩ := bp_gi_s h
      refine bm_lI E hx hb hK hP (bm_ga8 E) hg1 (dt_bm_M_guessed 54 rfl) ?_
      exact hL82 _ _ _ _ h ls H locs (lv_sub hl [1, 3, 4, 0] rfl) hP hD hS
    · replace h := (if_neg hc).symm.trans h
      refine lv_aload_n hx hb (dt_bm_M_guessed 42 rfl) rfl (lv_at hl 1 rfl) ?_
      refine va_get (D := E.1) (ci := 10) (v := .ref (E.2.1 9)) (C := "BlockPicturesModel") (T := bF_M) (N := 48) hx hb htb bm_in_M hown hK hP 0 (bm_gM E m) rfl 27 (by decide) (htb _ tw_795) (fun _ h9 => h9) rfl (dt_bm_M_guessed 43 rfl) ?_
      refine lv_iload_n hx hb (dt_bm_M_guessed 44 rfl) rfl (lv_at hl 2 rfl) ?_
      refine lv_iconst (v := 4) hx hb (dt_bm_M_guessed 45 rfl) (by decide) ?_
      refine lv_isub hx hb (dt_bm_M_guessed 46 rfl) ?_
      obtain ⟨hg2, h⟩ := bp_gi_s h
      refine bm_lI E hx hb hK hP (bm_ga9 E) hg2 (dt_bm_M_guessed 47 rfl) ?_
      refine lv_goto (tgt := 82) hx hb (dt_bm_M_guessed 48 rfl) (by decide) ?_
      exact hL82 _ _ _ _ h ls H locs (lv_sub hl [1, 3, 4, 0] rfl) hP hD hS
  have hL33 : ∀ (s0 : Int32) (m : bp_M), bm_M_guessed_L33 N a1 a2 s0 m = some (r, mr) → ∀ (ls : Array Slot) (H : Heap) (locs : List Loc), lv_has ls 7 [(0, .ref (E.2.1 0)), (1, .int a1), (2, .int a2)] → va_P E.1 bp_cl (bm_W E m) H → va_D A (bm_W E m) → va_S A s.heap H locs → W p l e ({ frames := 1, cells := 0, slots := 0, locals := 24 }) s mt args below meth c H locs 0 0 Q (F0 mt 33 ls [.int s0]) := by
    intro s0 m h ls H locs hl hP hD hS
    rw [bm_M_guessed_L33] at h
    refine lv_istore_n hx hb (dt_bm_M_guessed 21 rfl) rfl hl (Nat.le_of_ble_eq_true rfl) rfl (fun ls hl => ?_)
    have hl : lv_has ls 7 [(3, .int s0), (0, .ref (E.2.1 0)), (1, .int a1), (2, .int a2)] := hl
    refine lv_iload_n hx hb (dt_bm_M_guessed 22 rfl) rfl (lv_at hl 2 rfl) ?_
    refine lv_iconst (v := 4) hx hb (dt_bm_M_guessed 23 rfl) (by decide) ?_
    refine lv_icmp_ge (tgt := 41) hx hb (dt_bm_M_guessed 24 rfl) (by decide) (fun hc => ?_) (fun hc => ?_)
    · replace h := (if_pos hc).symm.trans h
      refine lv_iload_n hx hb (dt_bm_M_guessed 27 rfl) rfl (lv_at hl 2 rfl) ?_
      refine lv_iconst (v := 4) hx hb (dt_bm_M_guessed 28 rfl) (by decide) ?_
      refine lv_irem hx hb (dt_bm_M_guessed 29 rfl) (by decide) ?_
      refine lv_iconst (v := 3) hx hb (dt_bm_M_guessed 30 rfl) (by decide) ?_
      refine lv_icmp_ne (tgt := 54) hx hb (dt_bm_M_guessed 31 rfl) (by decide) (fun hc => ?_) (fun hc => ?_)
      · replace h := (if_pos hc).symm.trans h
        refine lv_iload_n hx hb (dt_bm_M_guessed 36 rfl) rfl (lv_at hl 2 rfl) ?_
        refine lv_iconst (v := 3) hx hb (dt_bm_M_guessed 37 rfl) (by decide) ?_
        refine lv_isub hx hb (dt_bm_M_guessed 38 rfl) ?_
        exact hL57 _ _ _ h ls H locs (lv_sub hl [1, 2, 3, 0] rfl) hP hD hS
      · replace h := (if_neg (fun hn => hn hc)).symm.trans h
        refine lv_iload_n hx hb (dt_bm_M_guessed 32 rfl) rfl (lv_at hl 2 rfl) ?_
        refine lv_iconst (v := 5) hx hb (dt_bm_M_guessed 33 rfl) (by decide) ?_
        refine lv_isub hx hb (dt_bm_M_guessed 34 rfl) ?_
        refine lv_goto (tgt := 57) hx hb (dt_bm_M_guessed 35 rfl) (by decide) ?_
        exact hL57 _ _ _ h ls H locs (lv_sub hl [1, 2, 3, 0] rfl) hP hD hS
    · replace h := (if_neg hc).symm.trans h
      refine lv_iload_n hx hb (dt_bm_M_guessed 25 rfl) rfl (lv_at hl 0 rfl) ?_
      exact hret _ _ _ _ _ _ h hP hD hS (dt_bm_M_guessed 26 rfl)
  suffices hgo : ∀ (H : Heap) (locs : List Loc), va_P E.1 bp_cl (bm_W E m) H → va_D A (bm_W E m) → va_S A s.heap H locs → W p l e ({ frames := 1, cells := 0, slots := 0, locals := 24 }) s mt args below meth c H locs 0 0 Q (F0 mt 0 ls []) from hgo _ _ hP hD hS
  clear hP hD hS
  intro H locs hP hD hS
  unfold bm_M_guessed at h
  refine lv_iload_n hx hb (dt_bm_M_guessed 0 rfl) rfl (lv_at hl 1 rfl) ?_
  refine lv_iconst (v := 4) hx hb (dt_bm_M_guessed 1 rfl) (by decide) ?_
  refine lv_irem hx hb (dt_bm_M_guessed 2 rfl) (by decide) ?_
  refine lv_if_ne (tgt := 10) hx hb (dt_bm_M_guessed 3 rfl) (by decide) (fun hc => ?_) (fun hc => ?_)
  · replace h := (if_pos hc).symm.trans h
    refine lv_iload_n hx hb (dt_bm_M_guessed 6 rfl) rfl (lv_at hl 2 rfl) ?_
    refine lv_if_eq (tgt := 25) hx hb (dt_bm_M_guessed 7 rfl) (by decide) (fun hc => ?_) (fun hc => ?_)
    · replace h := (if_pos hc).symm.trans h
      refine lv_aload_n hx hb (dt_bm_M_guessed 15 rfl) rfl (lv_at hl 0 rfl) ?_
      refine va_get (D := E.1) (ci := 10) (v := .ref (E.2.1 8)) (C := "BlockPicturesModel") (T := bF_M) (N := 48) hx hb htb bm_in_M hown hK hP 0 (bm_gM E m) rfl 26 (by decide) (htb _ tw_794) (fun _ h9 => h9) rfl (dt_bm_M_guessed 16 rfl) ?_
      refine lv_iload_n hx hb (dt_bm_M_guessed 17 rfl) rfl (lv_at hl 1 rfl) ?_
      refine lv_iconst (v := 1) hx hb (dt_bm_M_guessed 18 rfl) (by decide) ?_
      refine lv_isub hx hb (dt_bm_M_guessed 19 rfl) ?_
      obtain ⟨hg1, h⟩ := bp_gi_s h
      refine bm_lI E hx hb hK hP (bm_ga8 E) hg1 (dt_bm_M_guessed 20 rfl) ?_
      exact hL33 _ _ h ls H locs (lv_sub hl [0, 1, 2] rfl) hP hD hS
    · replace h := (if_neg hc).symm.trans h
      refine lv_aload_n hx hb (dt_bm_M_guessed 8 rfl) rfl (lv_at hl 0 rfl) ?_
      refine va_get (D := E.1) (ci := 10) (v := .ref (E.2.1 9)) (C := "BlockPicturesModel") (T := bF_M) (N := 48) hx hb htb bm_in_M hown hK hP 0 (bm_gM E m) rfl 27 (by decide) (htb _ tw_795) (fun _ h9 => h9) rfl (dt_bm_M_guessed 9 rfl) ?_
      refine lv_iload_n hx hb (dt_bm_M_guessed 10 rfl) rfl (lv_at hl 1 rfl) ?_
      refine lv_iconst (v := 1) hx hb (dt_bm_M_guessed 11 rfl) (by decide) ?_
      refine lv_isub hx hb (dt_bm_M_guessed 12 rfl) ?_
      obtain ⟨hg2, h⟩ := bp_gi_s h
      refine bm_lI E hx hb hK hP (bm_ga9 E) hg2 (dt_bm_M_guessed 13 rfl) ?_
      refine lv_goto (tgt := 33) hx hb (dt_bm_M_guessed 14 rfl) (by decide) ?_
      exact hL33 _ _ h ls H locs (lv_sub hl [0, 1, 2] rfl) hP hD hS
  · replace h := (if_neg (fun hn => hn hc)).symm.trans h
    refine lv_iconst (v := 0) hx hb (dt_bm_M_guessed 4 rfl) (by decide) ?_
    refine lv_goto (tgt := 33) hx hb (dt_bm_M_guessed 5 rfl) (by decide) ?_
    exact hL33 _ _ h ls H locs (lv_sub hl [0, 1, 2] rfl) hP hD hS

section BCK
variable {p : Program} {l : Launch} {e : Env} {R : Room} {s : State} {mt : MethodId} {args : Array Value} {below : List Frame} {meth : Method} {c : Code} {H : Heap} {locs : List Loc} {cc : ByteArray} {pc : Nat} {ls : Array Slot} {st : List Value} {A : Nat → Prop} {m mr : bp_M} {r : Int32} (E : bc_E)
theorem bc_keyI (hx : p.tables.exec = Jvm.exec) (hb : c.code = cc) (hr : meth.sig.returnType = some .int) (hlocks : meth.locks = false) (hK : va_K E.1 bp_cl (bc_ty E) s) (hAe : va_A (bc_W E m) s.heap.size = A)
    (k : ∀ Q : State → Prop, (∀ (v : Int32) (u : bp_M) (pc : Nat) (ls : Array Slot) (H : Heap) (locs : List Loc), some (v, u) = some (r, mr) → va_P E.1 bp_cl (bc_W E u) H → va_D A (bc_W E u) → va_S A s.heap H locs → decode cc pc = .ok (.ireturn, 1) → W p l e R s mt args below meth c H locs 0 0 Q (F0 mt pc ls [.int v])) → W p l e R s mt args below meth c H locs 0 0 Q (F0 mt pc ls st)) :
    W p l e R s mt args below meth c H locs 0 0 (MQ below (bc_Qi E m s.heap.size r mr) args s 0 0 A) (F0 mt pc ls st) := by
  subst hAe
  exact k _ (fun v u pc ls H locs e1 hP hD hS hd => W.iret hx hb hr (fun t ht hW => ⟨⟨v, u, rfl, Prod.mk.inj (Option.some.inj e1), by rw [ht]; exact hP, va_K.moved hW.alike hK, hD⟩, hS.F ht⟩) hS.2.2 hd)
theorem bc_keyZ (hx : p.tables.exec = Jvm.exec) (hb : c.code = cc) (hr : meth.sig.returnType = some .boolean) (hlocks : meth.locks = false) (hK : va_K E.1 bp_cl (bc_ty E) s) (hAe : va_A (bc_W E m) s.heap.size = A)
    (k : ∀ Q : State → Prop, (∀ (v : Int32) (u : bp_M) (pc : Nat) (ls : Array Slot) (H : Heap) (locs : List Loc), (v = 0 ∨ v = 1) → some (v, u) = some (r, mr) → va_P E.1 bp_cl (bc_W E u) H → va_D A (bc_W E u) → va_S A s.heap H locs → decode cc pc = .ok (.ireturn, 1) → W p l e R s mt args below meth c H locs 0 0 Q (F0 mt pc ls [.int v])) → W p l e R s mt args below meth c H locs 0 0 Q (F0 mt pc ls st)) :
    W p l e R s mt args below meth c H locs 0 0 (MQ below (bc_Qi E m s.heap.size r mr) args s 0 0 A) (F0 mt pc ls st) := by
  subst hAe
  exact k _ (fun v u pc ls H locs hz e1 hP hD hS hd => W.zret hx hb hr (bp_nz hz) (fun t ht hW => ⟨⟨v, u, rfl, Prod.mk.inj (Option.some.inj e1), by rw [ht]; exact hP, va_K.moved hW.alike hK, hD⟩, hS.F ht⟩) hS.2.2 hd)
theorem bc_keyV (hx : p.tables.exec = Jvm.exec) (hb : c.code = cc) (hr : meth.sig.returnType = none) (hlocks : meth.locks = false) (hK : va_K E.1 bp_cl (bc_ty E) s) (hAe : va_A (bc_W E m) s.heap.size = A)
    (k : ∀ Q : State → Prop, (∀ (u : bp_M) (pc : Nat) (ls : Array Slot) (H : Heap) (locs : List Loc), some u = some mr → va_P E.1 bp_cl (bc_W E u) H → va_D A (bc_W E u) → va_S A s.heap H locs → decode cc pc = .ok (.return_, 1) → W p l e R s mt args below meth c H locs 0 0 Q (F0 mt pc ls [])) → W p l e R s mt args below meth c H locs 0 0 Q (F0 mt pc ls st)) :
    W p l e R s mt args below meth c H locs 0 0 (MQ below (bc_Qv E m s.heap.size mr) args s 0 0 A) (F0 mt pc ls st) := by
  subst hAe
  exact k _ (fun u pc ls H locs e1 hP hD hS hd => W.vret hx hb hr (fun t ht hW => ⟨⟨u, rfl, (Option.some.inj e1), by rw [ht]; exact hP, va_K.moved hW.alike hK, hD⟩, hS.F ht⟩) hS.2.2 hd)
end BCK
section BMK
variable {p : Program} {l : Launch} {e : Env} {R : Room} {s : State} {mt : MethodId} {args : Array Value} {below : List Frame} {meth : Method} {c : Code} {H : Heap} {locs : List Loc} {cc : ByteArray} {pc : Nat} {ls : Array Slot} {st : List Value} {A : Nat → Prop} {m mr : bp_M} {r : Int32} (E : bm_E)
theorem bm_keyI (hx : p.tables.exec = Jvm.exec) (hb : c.code = cc) (hr : meth.sig.returnType = some .int) (hlocks : meth.locks = false) (hK : va_K E.1 bp_cl (bm_ty E) s) (hAe : va_A (bm_W E m) s.heap.size = A)
    (k : ∀ Q : State → Prop, (∀ (v : Int32) (u : bp_M) (pc : Nat) (ls : Array Slot) (H : Heap) (locs : List Loc), some (v, u) = some (r, mr) → va_P E.1 bp_cl (bm_W E u) H → va_D A (bm_W E u) → va_S A s.heap H locs → decode cc pc = .ok (.ireturn, 1) → W p l e R s mt args below meth c H locs 0 0 Q (F0 mt pc ls [.int v])) → W p l e R s mt args below meth c H locs 0 0 Q (F0 mt pc ls st)) :
    W p l e R s mt args below meth c H locs 0 0 (MQ below (bm_Qi E m s.heap.size r mr) args s 0 0 A) (F0 mt pc ls st) := by
  subst hAe
  exact k _ (fun v u pc ls H locs e1 hP hD hS hd => W.iret hx hb hr (fun t ht hW => ⟨⟨v, u, rfl, Prod.mk.inj (Option.some.inj e1), by rw [ht]; exact hP, va_K.moved hW.alike hK, hD⟩, hS.F ht⟩) hS.2.2 hd)
theorem bm_keyZ (hx : p.tables.exec = Jvm.exec) (hb : c.code = cc) (hr : meth.sig.returnType = some .boolean) (hlocks : meth.locks = false) (hK : va_K E.1 bp_cl (bm_ty E) s) (hAe : va_A (bm_W E m) s.heap.size = A)
    (k : ∀ Q : State → Prop, (∀ (v : Int32) (u : bp_M) (pc : Nat) (ls : Array Slot) (H : Heap) (locs : List Loc), (v = 0 ∨ v = 1) → some (v, u) = some (r, mr) → va_P E.1 bp_cl (bm_W E u) H → va_D A (bm_W E u) → va_S A s.heap H locs → decode cc pc = .ok (.ireturn, 1) → W p l e R s mt args below meth c H locs 0 0 Q (F0 mt pc ls [.int v])) → W p l e R s mt args below meth c H locs 0 0 Q (F0 mt pc ls st)) :
    W p l e R s mt args below meth c H locs 0 0 (MQ below (bm_Qi E m s.heap.size r mr) args s 0 0 A) (F0 mt pc ls st) := by
  subst hAe
  exact k _ (fun v u pc ls H locs hz e1 hP hD hS hd => W.zret hx hb hr (bp_nz hz) (fun t ht hW => ⟨⟨v, u, rfl, Prod.mk.inj (Option.some.inj e1), by rw [ht]; exact hP, va_K.moved hW.alike hK, hD⟩, hS.F ht⟩) hS.2.2 hd)
theorem bm_keyV (hx : p.tables.exec = Jvm.exec) (hb : c.code = cc) (hr : meth.sig.returnType = none) (hlocks : meth.locks = false) (hK : va_K E.1 bp_cl (bm_ty E) s) (hAe : va_A (bm_W E m) s.heap.size = A)
    (k : ∀ Q : State → Prop, (∀ (u : bp_M) (pc : Nat) (ls : Array Slot) (H : Heap) (locs : List Loc), some u = some mr → va_P E.1 bp_cl (bm_W E u) H → va_D A (bm_W E u) → va_S A s.heap H locs → decode cc pc = .ok (.return_, 1) → W p l e R s mt args below meth c H locs 0 0 Q (F0 mt pc ls [])) → W p l e R s mt args below meth c H locs 0 0 Q (F0 mt pc ls st)) :
    W p l e R s mt args below meth c H locs 0 0 (MQ below (bm_Qv E m s.heap.size mr) args s 0 0 A) (F0 mt pc ls st) := by
  subst hAe
  exact k _ (fun u pc ls H locs e1 hP hD hS hd => W.vret hx hb hr (fun t ht hW => ⟨⟨u, rfl, (Option.some.inj e1), by rw [ht]; exact hP, va_K.moved hW.alike hK, hD⟩, hS.F ht⟩) hS.2.2 hd)
end BMK

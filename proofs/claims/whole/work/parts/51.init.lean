/-! The leaf constructors. -/
theorem tok_X3 : ∀ k, k < 2 → parseFieldDescriptor (TX3 k).2.2.1 = some (tyX3 k) := by decide +kernel
theorem nok_X3 : ∀ a, a < 2 → ∀ b, b < 2 → a ≠ b → (TX3 a).2.1 ≠ (TX3 b).2.1 := by decide +kernel
set_option maxHeartbeats 4000000 in
set_option maxRecDepth 100000 in
theorem c_X3_init (l : Launch) (D : va_G) (h0 : Nat) (sz : Nat) : Met l yX3_init (wsM yX3_init cX3_init 1 none) ({ frames := 1, cells := 2, slots := 450, locals := 12 }) (va_Pc [.ref h0] (fun U => U.heap.size = sz ∧ va_P D vwCl [(h0, .inr (2, [.null, .null]))] U.heap ∧ va_K D vwCl [] U ∧ va_D (fun _ => True) [(h0, .inr (2, [.null, .null]))])) (va_Qv (fun _ : Unit => True) (fun (_ : Unit) t => ∃ (q0 q1 : Nat) (cA0 cA1 : ClassId), va_P D vwCl [(h0, .inr (2, [.ref q0, .ref q1])), (q0, .inl (cA0, 225, .inl (fun _ => 0))), (q1, .inl (cA1, 225, .inl (fun _ => 0)))] t.heap ∧ va_K D vwCl [(cA0, .int), (cA1, .int)] t ∧ va_D (va_A [(h0, .inr (2, [.null, .null]))] sz) [(h0, .inr (2, [.ref q0, .ref q1])), (q0, .inl (cA0, 225, .inl (fun _ => 0))), (q1, .inl (cA1, 225, .inl (fun _ => 0)))]) (va_A [(h0, .inr (2, [.null, .null]))] sz)) 2 450 (va_A [(h0, .inr (2, [.null, .null]))] sz) := by
  refine Met.ofW (cc := cX3_init) (maxL := 1) (ret := none) (by decide) rfl ?_
  intro p e s m args below meth c s₁ B hml hv
  obtain ⟨rfl, hsz, hP, hK, hD0⟩ := hv
  have hx := B.exec
  have hb := B.bytes
  have hr := B.returns
  have hts0 := atoms_spec (ws := wsM yX3_init cX3_init 1 none) B.pre
  have hts : ∀ w ∈ wsG, w.before _ s = true := fun w h => hts0 w (List.mem_cons_of_mem _ h)
  have hown : s.vm.findClass RX3 = some m.cls := findClass_of_methodNamed B.named
  have hin : meth.name = "<init>" := (name_of_methodNamed B.named B.method).1
  subst hsz
  have hD := hD0.self (sz := s.heap.size)
  generalize hAe : va_A [(h0, .inr (2, [.null, .null]))] s.heap.size = A at hD ⊢
  have hA : ∀ q : Nat, s.heap.size ≤ q → A q := fun q h => by rw [← hAe]; exact Or.inr h
  have hS : va_S A s.heap s.heap [] := va_S.rf
  have hl := lv_entry ([.ref h0]) (n := 1) (Nat.le_of_ble_eq_true rfl)
  rw [lg_entry_eq]
  generalize (lg_sl ([.ref h0]) ++ List.replicate (1 - (lg_sl ([.ref h0])).length) Slot.unset).toArray = ls at hl ⊢
  have hl : lv_has ls 1 [(0, .ref h0)] := hl
  refine lv_aload_n hx hb dX3_init_0 rfl (lv_at hl 0 rfl) ?_
  refine W.objInit hx hb hown (hts (.methodLink RX3 3 objectInit) wG174) (hts (.instanceMethod objectInit) wG98) (hts _ wG99) rfl (by rw [hml]; exact hl.1) rfl dX3_init_1 (Nat.le_of_ble_eq_true rfl) (Nat.le_of_ble_eq_true rfl) ?_
  refine W.eq (g2 := F0 m 4 ls []) rfl ?_
  refine lv_aload_n hx hb dX3_init_4 rfl (lv_at hl 0 rfl) ?_
  refine lv_sipush (v := 225) hx hb dX3_init_5 (by decide) ?_
  refine va_newa (atype := .int) (ty := .int) (a0 := (225, .inl (fun _ => 0))) hx hb (hts (.arrayClass .int) wG140) rfl hK hP hD hS hA (fun cA => rfl) (by decide) (by decide) (by decide) (Nat.le_of_ble_eq_true rfl) (Nat.le_of_ble_eq_true rfl) dX3_init_8 (fun q0 cA0 H hK hP hD hS => ?_)
  have hP : va_P D vwCl [(h0, .inr (2, [.null, .null])), (q0, .inl (cA0, 225, .inl (fun _ => 0)))] H := hP
  have hD : va_D A [(h0, .inr (2, [.null, .null])), (q0, .inl (cA0, 225, .inl (fun _ => 0)))] := hD
  have hK : va_K D vwCl [(cA0, .int)] s := hK
  refine W.widen (k := 1) (n := 225) (Nat.le_of_ble_eq_true rfl) (Nat.le_of_ble_eq_true rfl) ?_
  refine va_putF (D := D) (ci := 2) (v := .ref q0) (ty := tyX3 0) (C := RX3) (T := TX3) (N := 2) hx hb hts wG_X3 tyX3 tok_X3 nok_X3 hown hK hP hD hS 0 rfl rfl 0 (by decide) (hts (.fieldLink RX3 9 (TX3 0).1 (TX3 0).2.1 (TX3 0).2.2.1) wG175) (fun _ h9 => h9) rfl hin rfl (by decide +kernel) rfl rfl (Nat.le_of_ble_eq_true rfl) dX3_init_10 (fun H locs hP hD hS => ?_)
  have hP : va_P D vwCl [(h0, .inr (2, [.ref q0, .null])), (q0, .inl (cA0, 225, .inl (fun _ => 0)))] H := hP
  have hD : va_D A [(h0, .inr (2, [.ref q0, .null])), (q0, .inl (cA0, 225, .inl (fun _ => 0)))] := hD
  refine lv_aload_n hx hb dX3_init_13 rfl (lv_at hl 0 rfl) ?_
  refine lv_sipush (v := 225) hx hb dX3_init_14 (by decide) ?_
  refine va_newa (atype := .int) (ty := .int) (a0 := (225, .inl (fun _ => 0))) hx hb (hts (.arrayClass .int) wG140) rfl hK hP hD hS hA (fun cA => rfl) (by decide) (by decide) (by decide) (Nat.le_of_ble_eq_true rfl) (Nat.le_of_ble_eq_true rfl) dX3_init_17 (fun q1 cA1 H hK hP hD hS => ?_)
  have hP : va_P D vwCl [(h0, .inr (2, [.ref q0, .null])), (q0, .inl (cA0, 225, .inl (fun _ => 0))), (q1, .inl (cA1, 225, .inl (fun _ => 0)))] H := hP
  have hD : va_D A [(h0, .inr (2, [.ref q0, .null])), (q0, .inl (cA0, 225, .inl (fun _ => 0))), (q1, .inl (cA1, 225, .inl (fun _ => 0)))] := hD
  have hK : va_K D vwCl [(cA0, .int), (cA1, .int)] s := hK
  refine W.widen (k := 2) (n := 450) (Nat.le_of_ble_eq_true rfl) (Nat.le_of_ble_eq_true rfl) ?_
  refine va_putF (D := D) (ci := 2) (v := .ref q1) (ty := tyX3 1) (C := RX3) (T := TX3) (N := 2) hx hb hts wG_X3 tyX3 tok_X3 nok_X3 hown hK hP hD hS 0 rfl rfl 1 (by decide) (hts (.fieldLink RX3 15 (TX3 1).1 (TX3 1).2.1 (TX3 1).2.2.1) wG176) (fun _ h9 => h9) rfl hin rfl (by decide +kernel) rfl rfl (Nat.le_of_ble_eq_true rfl) dX3_init_19 (fun H locs hP hD hS => ?_)
  have hP : va_P D vwCl [(h0, .inr (2, [.ref q0, .ref q1])), (q0, .inl (cA0, 225, .inl (fun _ => 0))), (q1, .inl (cA1, 225, .inl (fun _ => 0)))] H := hP
  have hD : va_D A [(h0, .inr (2, [.ref q0, .ref q1])), (q0, .inl (cA0, 225, .inl (fun _ => 0))), (q1, .inl (cA1, 225, .inl (fun _ => 0)))] := hD
  exact W.vret hx hb hr (fun t ht hW => ⟨⟨(), rfl, trivial, q0, q1, cA0, cA1, by rw [ht]; exact hP, va_K.moved hW.alike hK, hD⟩, hS.F ht⟩) hS.2.2 dX3_init_22

set_option maxRecDepth 100000 in
set_option maxHeartbeats 4000000 in
theorem c_X0_signMove (l : Launch) (D : va_G) (cs : vCs) (ad : Nat → Nat → Nat) {w : Wd} {a0 : Int32} {a1 : Int32} {r : Int32} (hm : X0_signMove a0 a1 = r) : Mc l yX0_signMove cX0_signMove 2 (some .int) 0 0 D cs ad [.int a0, .int a1] w (some (.int r)) w := by
  refine Mc.of (by decide) (Nat.le_of_ble_eq_true rfl) ?_
  intro p e s m args below meth c E
  replace E : EV p m c cX0_signMove 2 s args RX0 yX0_signMove (some .int) meth D cs ad := E
  unfold X0_signMove at hm
  refine x_iload_n E dX0_signMove_0 rfl 1 rfl ?_
  refine x_bipush (v := (iI 97)) E dX0_signMove_1 (by decide) ?_
  refine x_icmp_ne (tgt := 12) E dX0_signMove_3 (by decide) hm (fun _ hm => ?_) (fun _ hm => ?_)
  · refine x_iload_n E dX0_signMove_12 rfl 1 rfl ?_
    refine x_bipush (v := (iI 98)) E dX0_signMove_13 (by decide) ?_
    refine x_icmp_ne (tgt := 26) E dX0_signMove_15 (by decide) hm (fun _ hm => ?_) (fun _ hm => ?_)
    · refine x_iconst (v := (iI (-1))) E dX0_signMove_26 (by decide) ?_
      exact x_iretT E hm dX0_signMove_27
    · refine x_iload_n E dX0_signMove_18 rfl 0 rfl ?_
      refine x_iconst (v := (iI 3)) E dX0_signMove_19 (by decide) ?_
      refine x_imul E dX0_signMove_20 ?_
      refine x_iconst (v := (iI 2)) E dX0_signMove_21 (by decide) ?_
      refine x_iadd E dX0_signMove_22 ?_
      refine x_goto (tgt := 27) E dX0_signMove_23 (by decide) ?_
      exact x_iretT E hm dX0_signMove_27
  · refine x_iload_n E dX0_signMove_6 rfl 0 rfl ?_
    refine x_iconst (v := (iI 3)) E dX0_signMove_7 (by decide) ?_
    refine x_imul E dX0_signMove_8 ?_
    refine x_iconst (v := (iI 1)) E dX0_signMove_9 (by decide) ?_
    refine x_iadd E dX0_signMove_10 ?_
    exact x_iretT E hm dX0_signMove_11
set_option maxRecDepth 100000 in
set_option maxHeartbeats 4000000 in
theorem c_X0_beginMove (l : Launch) (D : va_G) (cs : vCs) (ad : Nat → Nat → Nat) {w : Wd} {a0 : Int32} {r : Int32} (hm : X0_beginMove a0 = r) : Mc l yX0_beginMove cX0_beginMove 1 (some .int) 1 21 D cs ad [.int a0] w (some (.int r)) w := by
  refine Mc.of (by decide) (Nat.le_of_ble_eq_true rfl) ?_
  intro p e s m args below meth c E
  replace E : EV p m c cX0_beginMove 1 s args RX0 yX0_beginMove (some .int) meth D cs ad := E
  unfold X0_beginMove at hm
  refine x_iload_n E dX0_beginMove_0 rfl 0 rfl ?_
  refine x_split hm (fun hx hm => ?_) (fun hs0 hm => ?_)
  · refine x_tin (kv := (iI 99)) (tgt := 32) E dX0_beginMove_1 hx rfl (by decide) (by decide) rfl (by decide) ?_
    refine x_iconst (v := (iI 3)) E dX0_beginMove_32 (by decide) ?_
    exact x_iretT E hm dX0_beginMove_33
  refine x_split hm (fun hx hm => ?_) (fun hs1 hm => ?_)
  · refine x_tin (kv := (iI 100)) (tgt := 34) E dX0_beginMove_1 hx rfl (by decide) (by decide) rfl (by decide) ?_
    refine x_bipush (v := (iI 6)) E dX0_beginMove_34 (by decide) ?_
    exact x_iretT E hm dX0_beginMove_36
  refine x_split hm (fun hx hm => ?_) (fun hs2 hm => ?_)
  · refine x_tin (kv := (iI 101)) (tgt := 37) E dX0_beginMove_1 hx rfl (by decide) (by decide) rfl (by decide) ?_
    refine x_bipush (v := (iI 9)) E dX0_beginMove_37 (by decide) ?_
    exact x_iretT E hm dX0_beginMove_39
  refine x_split hm (fun hx hm => ?_) (fun hs3 hm => ?_)
  · refine x_tin (kv := (iI 102)) (tgt := 40) E dX0_beginMove_1 hx rfl (by decide) (by decide) rfl (by decide) ?_
    refine x_bipush (v := (iI 12)) E dX0_beginMove_40 (by decide) ?_
    exact x_iretT E hm dX0_beginMove_42
  refine x_tout (tgt := 43) E dX0_beginMove_1 (by have := lv_neT (a := 99) hs0 rfl; have := lv_neT (a := 100) hs1 rfl; have := lv_neT (a := 101) hs2 rfl; have := lv_neT (a := 102) hs3 rfl; omega) (by decide) ?_
  refine x_iconst (v := (iI 0)) E dX0_beginMove_43 (by decide) ?_
  refine x_iload_n E dX0_beginMove_44 rfl 0 rfl ?_
  refine x_callS (As := [.int (iI 0), .int a0]) (rest := []) E my_X0_signMove wG330 (c_X0_signMove l D cs ad rfl) rfl ⟨Nat.le_of_ble_eq_true rfl, Nat.le_of_ble_eq_true rfl⟩ (Nat.le_of_ble_eq_true rfl) dX0_beginMove_45 ?_
  exact x_iretT E hm dX0_beginMove_48
set_option maxRecDepth 100000 in
set_option maxHeartbeats 4000000 in
theorem c_X0_gain (l : Launch) (D : va_G) (cs : vCs) (ad : Nat → Nat → Nat) {w : Wd} {g : Nat} {a1 : Int32} {a2 : Int32} (hg : kl g = 0) {r : Int32} (hm : X0_gain w g a1 a2 = some r) : Mc l yX0_gain cX0_gain 3 (some .int) 0 0 D cs ad [.ref (ad g 0), .int a1, .int a2] w (some (.int r)) w := by
  refine Mc.of (by decide) (Nat.le_of_ble_eq_true rfl) ?_
  intro p e s m args below meth c E
  replace E : EV p m c cX0_gain 3 s args RX0 yX0_gain (some .int) meth D cs ad := E
  unfold X0_gain at hm
  refine x_iload_n E dX0_gain_0 rfl 1 rfl ?_
  refine x_if_lt (tgt := 20) E dX0_gain_1 (by decide) hm (fun _ hm => ?_) (fun _ hm => ?_)
  · refine x_iconst (v := (iI 0)) E dX0_gain_20 (by decide) ?_
    exact x_iretP E hm dX0_gain_21
  · refine x_iload_n E dX0_gain_4 rfl 1 rfl ?_
    refine x_bipush (v := (iI 15)) E dX0_gain_5 (by decide) ?_
    refine x_icmp_ge (tgt := 20) E dX0_gain_7 (by decide) hm (fun _ hm => ?_) (fun _ hm => ?_)
    · refine x_iconst (v := (iI 0)) E dX0_gain_20 (by decide) ?_
      exact x_iretP E hm dX0_gain_21
    · refine x_iload_n E dX0_gain_10 rfl 2 rfl ?_
      refine x_if_lt (tgt := 20) E dX0_gain_11 (by decide) hm (fun _ hm => ?_) (fun _ hm => ?_)
      · refine x_iconst (v := (iI 0)) E dX0_gain_20 (by decide) ?_
        exact x_iretP E hm dX0_gain_21
      · refine x_iload_n E dX0_gain_14 rfl 2 rfl ?_
        refine x_bipush (v := (iI 8)) E dX0_gain_15 (by decide) ?_
        refine x_icmp_lt (tgt := 22) E dX0_gain_17 (by decide) hm (fun _ hm => ?_) (fun _ hm => ?_)
        · refine x_aload_n E dX0_gain_22 rfl 0 rfl ?_
          refine x_gf (v := .ref (ad g 4)) E fr_X0_21 hg rfl dX0_gain_23 ?_
          refine x_iload_n E dX0_gain_26 rfl 1 rfl ?_
          refine x_bipush (v := (iI 8)) E dX0_gain_27 (by decide) ?_
          refine x_imul E dX0_gain_29 ?_
          refine x_iload_n E dX0_gain_30 rfl 2 rfl ?_
          refine x_iadd E dX0_gain_31 ?_
          refine x_iald E hg rfl (by decide) dX0_gain_32 hm (fun x_1 hm => ?_)
          exact x_iretP E hm dX0_gain_33
        · refine x_iconst (v := (iI 0)) E dX0_gain_20 (by decide) ?_
          exact x_iretP E hm dX0_gain_21
set_option maxRecDepth 100000 in
set_option maxHeartbeats 4000000 in
theorem c_X0_kind (l : Launch) (D : va_G) (cs : vCs) (ad : Nat → Nat → Nat) {w : Wd} {g : Nat} (hg : kl g = 0) {r : Int32} (hm : X0_kind w g = r) : Mc l yX0_kind cX0_kind 1 (some .int) 0 0 D cs ad [.ref (ad g 0)] w (some (.int r)) w := by
  refine Mc.of (by decide) (Nat.le_of_ble_eq_true rfl) ?_
  intro p e s m args below meth c E
  replace E : EV p m c cX0_kind 1 s args RX0 yX0_kind (some .int) meth D cs ad := E
  unfold X0_kind at hm
  refine x_aload_n E dX0_kind_0 rfl 0 rfl ?_
  refine x_gf (v := .int (rd w g 0 2)) E fr_X0_46 hg rfl dX0_kind_1 ?_
  exact x_iretT E hm dX0_kind_4
set_option maxRecDepth 100000 in
set_option maxHeartbeats 4000000 in
theorem c_X0_sortPair (l : Launch) (D : va_G) (cs : vCs) (ad : Nat → Nat → Nat) {w : Wd} {a0 : Int32} {a1 : Int32} {r : Int32} (hm : X0_sortPair a0 a1 = r) : Mc l yX0_sortPair cX0_sortPair 2 (some .int) 0 0 D cs ad [.int a0, .int a1] w (some (.int r)) w := by
  refine Mc.of (by decide) (Nat.le_of_ble_eq_true rfl) ?_
  intro p e s m args below meth c E
  replace E : EV p m c cX0_sortPair 2 s args RX0 yX0_sortPair (some .int) meth D cs ad := E
  unfold X0_sortPair at hm
  refine x_iload_n E dX0_sortPair_0 rfl 0 rfl ?_
  refine x_iconst (v := (iI 1)) E dX0_sortPair_1 (by decide) ?_
  refine x_isub E dX0_sortPair_2 ?_
  refine x_iconst (v := (iI 2)) E dX0_sortPair_3 (by decide) ?_
  refine x_imul E dX0_sortPair_4 ?_
  refine x_iload_n E dX0_sortPair_5 rfl 1 rfl ?_
  refine x_iadd E dX0_sortPair_6 ?_
  refine x_iconst (v := (iI 1)) E dX0_sortPair_7 (by decide) ?_
  refine x_isub E dX0_sortPair_8 ?_
  exact x_iretT E hm dX0_sortPair_9
set_option maxRecDepth 100000 in
set_option maxHeartbeats 4000000 in
theorem c_X2_marksBegin (l : Launch) (D : va_G) (cs : vCs) (ad : Nat → Nat → Nat) {w : Wd} {a0 : Int32} {r : Int32} (hm : X2_marksBegin a0 = r) : Mc l yX2_marksBegin cX2_marksBegin 1 (some .int) 0 0 D cs ad [.int a0] w (some (.int r)) w := by
  refine Mc.of (by decide) (Nat.le_of_ble_eq_true rfl) ?_
  intro p e s m args below meth c E
  replace E : EV p m c cX2_marksBegin 1 s args RX2 yX2_marksBegin (some .int) meth D cs ad := E
  unfold X2_marksBegin at hm
  refine x_iload_n E dX2_marksBegin_0 rfl 0 rfl ?_
  refine x_iconst (v := (iI 1)) E dX2_marksBegin_1 (by decide) ?_
  refine x_icmp_eq (tgt := 10) E dX2_marksBegin_2 (by decide) hm (fun _ hm => ?_) (fun _ hm => ?_)
  · refine x_iconst (v := (iI 2)) E dX2_marksBegin_10 (by decide) ?_
    refine x_goto (tgt := 15) E dX2_marksBegin_11 (by decide) ?_
    exact x_iretT E hm dX2_marksBegin_15
  · refine x_iload_n E dX2_marksBegin_5 rfl 0 rfl ?_
    refine x_iconst (v := (iI 3)) E dX2_marksBegin_6 (by decide) ?_
    refine x_icmp_ne (tgt := 14) E dX2_marksBegin_7 (by decide) hm (fun _ hm => ?_) (fun _ hm => ?_)
    · refine x_iconst (v := (iI 1)) E dX2_marksBegin_14 (by decide) ?_
      exact x_iretT E hm dX2_marksBegin_15
    · refine x_iconst (v := (iI 2)) E dX2_marksBegin_10 (by decide) ?_
      refine x_goto (tgt := 15) E dX2_marksBegin_11 (by decide) ?_
      exact x_iretT E hm dX2_marksBegin_15
set_option maxRecDepth 100000 in
set_option maxHeartbeats 4000000 in
theorem c_X2_pointsBegin (l : Launch) (D : va_G) (cs : vCs) (ad : Nat → Nat → Nat) {w : Wd} {a0 : Int32} {r : Int32} (hm : X2_pointsBegin a0 = r) : Mc l yX2_pointsBegin cX2_pointsBegin 1 (some .int) 1 20 D cs ad [.int a0] w (some (.int r)) w := by
  refine Mc.of (by decide) (Nat.le_of_ble_eq_true rfl) ?_
  intro p e s m args below meth c E
  replace E : EV p m c cX2_pointsBegin 1 s args RX2 yX2_pointsBegin (some .int) meth D cs ad := E
  unfold X2_pointsBegin at hm
  refine x_iload_n E dX2_pointsBegin_0 rfl 0 rfl ?_
  refine x_callS (As := [.int a0]) (rest := []) E my_X2_marksBegin wG290 (c_X2_marksBegin l D cs ad rfl) rfl ⟨Nat.le_of_ble_eq_true rfl, Nat.le_of_ble_eq_true rfl⟩ (Nat.le_of_ble_eq_true rfl) dX2_pointsBegin_1 ?_
  refine x_iload_n E dX2_pointsBegin_4 rfl 0 rfl ?_
  refine x_iconst (v := (iI 3)) E dX2_pointsBegin_5 (by decide) ?_
  refine x_icmp_ne (tgt := 14) E dX2_pointsBegin_6 (by decide) hm (fun _ hm => ?_) (fun _ hm => ?_)
  · refine x_bipush (v := (iI 8)) E dX2_pointsBegin_14 (by decide) ?_
    refine x_iadd E dX2_pointsBegin_16 ?_
    exact x_iretT E hm dX2_pointsBegin_17
  · refine x_bipush (v := (iI 16)) E dX2_pointsBegin_9 (by decide) ?_
    refine x_goto (tgt := 16) E dX2_pointsBegin_11 (by decide) ?_
    refine x_iadd E dX2_pointsBegin_16 ?_
    exact x_iretT E hm dX2_pointsBegin_17
set_option maxRecDepth 100000 in
set_option maxHeartbeats 4000000 in
theorem c_X0_pointsOf (l : Launch) (D : va_G) (cs : vCs) (ad : Nat → Nat → Nat) {w : Wd} {g : Nat} {a1 : Int32} (hg : kl g = 0) {r : Int32} (hm : X0_pointsOf w g a1 = some r) : Mc l yX0_pointsOf cX0_pointsOf 3 (some .int) 2 40 D cs ad [.ref (ad g 0), .int a1] w (some (.int r)) w := by
  refine Mc.of (by decide) (Nat.le_of_ble_eq_true rfl) ?_
  intro p e s m args below meth c E
  replace E : EV p m c cX0_pointsOf 3 s args RX0 yX0_pointsOf (some .int) meth D cs ad := E
  unfold X0_pointsOf at hm
  refine x_aload_n E dX0_pointsOf_0 rfl 0 rfl ?_
  refine x_gf (v := .int (rd w g 0 2)) E fr_X0_46 hg rfl dX0_pointsOf_1 ?_
  refine x_callS (As := [.int (rd w g 0 2)]) (rest := []) E my_X2_pointsBegin wG350 (c_X2_pointsBegin l D cs ad rfl) rfl ⟨Nat.le_of_ble_eq_true rfl, Nat.le_of_ble_eq_true rfl⟩ (Nat.le_of_ble_eq_true rfl) dX0_pointsOf_4 ?_
  refine x_iload_n E dX0_pointsOf_7 rfl 1 rfl ?_
  refine x_iadd E dX0_pointsOf_8 ?_
  refine x_bI hm (fun x_1 hm => ?_)
  refine x_istore_n (lv' := [(2, .int x_1), (0, .ref (ad g 0)), (1, .int a1)]) E dX0_pointsOf_9 rfl (by decide) rfl ?_
  refine x_iload_n E dX0_pointsOf_10 rfl 0 rfl ?_
  refine x_if_lt (tgt := 34) E dX0_pointsOf_11 (by decide) hm (fun _ hm => ?_) (fun _ hm => ?_)
  · refine x_iconst (v := (iI 0)) E dX0_pointsOf_34 (by decide) ?_
    exact x_iretP E hm dX0_pointsOf_35
  · refine x_iload_n E dX0_pointsOf_14 rfl 0 rfl ?_
    refine x_aload_n E dX0_pointsOf_15 rfl 1 rfl ?_
    refine x_gf (v := .int (rd w g 0 1)) E fr_X0_36 hg rfl dX0_pointsOf_16 ?_
    refine x_icmp_ge (tgt := 34) E dX0_pointsOf_19 (by decide) hm (fun _ hm => ?_) (fun _ hm => ?_)
    · refine x_iconst (v := (iI 0)) E dX0_pointsOf_34 (by decide) ?_
      exact x_iretP E hm dX0_pointsOf_35
    · refine x_aload_n E dX0_pointsOf_22 rfl 1 rfl ?_
      refine x_gf (v := .ref (ad g 1)) E fr_X0_9 hg rfl dX0_pointsOf_23 ?_
      refine x_iload_n E dX0_pointsOf_26 rfl 0 rfl ?_
      refine x_iald E hg rfl (by decide) dX0_pointsOf_27 hm (fun x_2 hm => ?_)
      refine x_bipush (v := (iI 48)) E dX0_pointsOf_28 (by decide) ?_
      refine x_isub E dX0_pointsOf_30 ?_
      refine x_goto (tgt := 35) E dX0_pointsOf_31 (by decide) ?_
      exact x_iretP E hm dX0_pointsOf_35
set_option maxRecDepth 100000 in
set_option maxHeartbeats 4000000 in
theorem c_X0_layOut (l : Launch) (D : va_G) (cs : vCs) (ad : Nat → Nat → Nat) {w : Wd} {g : Nat} {a1 : Int32} {a2 : Int32} {a3 : Int32} (hg : kl g = 0) {w' : Wd} (hm : X0_layOut w g a1 a2 a3 = some w') : Mc l yX0_layOut cX0_layOut 7 none 3 62 D cs ad [.ref (ad g 0), .int a1, .int a2, .int a3] w none w' := by
  refine Mc.of (by decide) (Nat.le_of_ble_eq_true rfl) ?_
  intro p e s m args below meth c E
  replace E : EV p m c cX0_layOut 7 s args RX0 yX0_layOut none meth D cs ad := E
  have hL64 : ∀ (k3 : Int32 → Int32 → Int32 → Int32 → Wd → Option Wd) (hk3 : ∀ (b1 : Int32) (b2 : Int32) (b3 : Int32) (b4 : Int32) (w : Wd), k3 b1 b2 b3 b4 w = some w' → XV p l e { frames := 3, cells := 0, slots := 0, locals := 62 } s m args below meth c 7 D cs ad (MQ below (xQ D cs ad none w') args s 0 0 (xF ad)) 3 [(0, .ref (ad g 0)), (1, .int b1), (2, .int b2), (3, .int b3), (4, .int b4)] [] w) (b1 : Int32) (b2 : Int32) (b3 : Int32) (b4 : Int32) (b5 : Int32) (b6 : Int32) (t0 : Int32) (t1 : Int32) (w : Wd), X0_layOut_L64 k3 g b1 b2 b3 b4 b5 b6 t0 t1 w = some w' → XV p l e { frames := 3, cells := 0, slots := 0, locals := 62 } s m args below meth c 7 D cs ad (MQ below (xQ D cs ad none w') args s 0 0 (xF ad)) 64 [(0, .ref (ad g 0)), (1, .int b1), (2, .int b2), (3, .int b3), (4, .int b4), (5, .int b5), (6, .int b6)] [.int t0, .int t1, .ref (ad g 3)] w := by
    intro k3 hk3 b1 b2 b3 b4 b5 b6 t0 t1 w hm
    unfold X0_layOut_L64 at hm
    refine x_iast E hg rfl (by decide) dX0_layOut_64 hm (fun w_2 hm => ?_)
    refine x_aload_n E dX0_layOut_65 rfl 0 rfl ?_
    refine x_gf (v := .ref (ad g 4)) E fr_X0_21 hg rfl dX0_layOut_66 ?_
    refine x_iload E dX0_layOut_69 5 rfl ?_
    refine x_iload E dX0_layOut_71 6 rfl ?_
    refine x_if_eq (tgt := 96) E dX0_layOut_73 (by decide) hm (fun _ hm => ?_) (fun _ hm => ?_)
    · refine x_iconst (v := (iI 0)) E dX0_layOut_96 (by decide) ?_
      refine x_iast E hg rfl (by decide) dX0_layOut_97 hm (fun w_3 hm => ?_)
      refine x_iincB (lv' := fun x_4 => [(4, .int x_4), (0, .ref (ad g 0)), (1, .int b1), (2, .int b2), (3, .int b3), (5, .int b5), (6, .int b6)]) (j := 4) E dX0_layOut_98 rfl rfl (by decide) (fun _ => rfl) hm (fun x_4 hm => ?_)
      refine x_goto (tgt := 3) E dX0_layOut_101 (by decide) ?_
      exact x_weak [1, 2, 3, 4, 0] rfl (hk3 b1 b2 b3 x_4 w_3 hm)
    · refine x_iload E dX0_layOut_76 4 rfl ?_
      refine x_if_eq (tgt := 96) E dX0_layOut_78 (by decide) hm (fun _ hm => ?_) (fun _ hm => ?_)
      · refine x_iconst (v := (iI 0)) E dX0_layOut_96 (by decide) ?_
        refine x_iast E hg rfl (by decide) dX0_layOut_97 hm (fun w_5 hm => ?_)
        refine x_iincB (lv' := fun x_6 => [(4, .int x_6), (0, .ref (ad g 0)), (1, .int b1), (2, .int b2), (3, .int b3), (5, .int b5), (6, .int b6)]) (j := 4) E dX0_layOut_98 rfl rfl (by decide) (fun _ => rfl) hm (fun x_6 hm => ?_)
        refine x_goto (tgt := 3) E dX0_layOut_101 (by decide) ?_
        exact x_weak [1, 2, 3, 4, 0] rfl (hk3 b1 b2 b3 x_6 w_5 hm)
      · refine x_aload_n E dX0_layOut_81 rfl 0 rfl ?_
        refine x_iload E dX0_layOut_82 4 rfl ?_
        refine x_iload_n E dX0_layOut_84 rfl 3 rfl ?_
        refine x_iconst (v := (iI 3)) E dX0_layOut_85 (by decide) ?_
        refine x_irem E dX0_layOut_86 (by decide) ?_
        refine x_callS (As := [.int b4, .int (irm b3 (iI 3))]) (rest := [.ref (ad g 0), .int b5, .ref (ad g 4)]) E my_X0_sortPair wG343 (c_X0_sortPair l D cs ad rfl) rfl ⟨Nat.le_of_ble_eq_true rfl, Nat.le_of_ble_eq_true rfl⟩ (Nat.le_of_ble_eq_true rfl) dX0_layOut_87 ?_
        obtain ⟨r_7, hc, hm⟩ := ob_inv hm
        refine x_callV (As := [.int (X0_sortPair b4 (irm b3 (iI 3)))]) (rest := [.int b5, .ref (ad g 4)]) E my_X0_pointsOf wG346 (c_X0_pointsOf l D cs ad hg hc) hg rfl rfl ⟨Nat.le_of_ble_eq_true rfl, Nat.le_of_ble_eq_true rfl⟩ (Nat.le_of_ble_eq_true rfl) dX0_layOut_90 ?_
        refine x_goto (tgt := 97) E dX0_layOut_93 (by decide) ?_
        refine x_iast E hg rfl (by decide) dX0_layOut_97 hm (fun w_8 hm => ?_)
        refine x_iincB (lv' := fun x_9 => [(4, .int x_9), (0, .ref (ad g 0)), (1, .int b1), (2, .int b2), (3, .int b3), (5, .int b5), (6, .int b6)]) (j := 4) E dX0_layOut_98 rfl rfl (by decide) (fun _ => rfl) hm (fun x_9 hm => ?_)
        refine x_goto (tgt := 3) E dX0_layOut_101 (by decide) ?_
        exact x_weak [1, 2, 3, 4, 0] rfl (hk3 b1 b2 b3 x_9 w_8 hm)
  have hL38 : ∀ (k3 : Int32 → Int32 → Int32 → Int32 → Wd → Option Wd) (hk3 : ∀ (b1 : Int32) (b2 : Int32) (b3 : Int32) (b4 : Int32) (w : Wd), k3 b1 b2 b3 b4 w = some w' → XV p l e { frames := 3, cells := 0, slots := 0, locals := 62 } s m args below meth c 7 D cs ad (MQ below (xQ D cs ad none w') args s 0 0 (xF ad)) 3 [(0, .ref (ad g 0)), (1, .int b1), (2, .int b2), (3, .int b3), (4, .int b4)] [] w) (b1 : Int32) (b2 : Int32) (b3 : Int32) (b4 : Int32) (b5 : Int32) (t0 : Int32) (w : Wd), X0_layOut_L38 k3 g b1 b2 b3 b4 b5 t0 w = some w' → XV p l e { frames := 3, cells := 0, slots := 0, locals := 62 } s m args below meth c 7 D cs ad (MQ below (xQ D cs ad none w') args s 0 0 (xF ad)) 38 [(0, .ref (ad g 0)), (1, .int b1), (2, .int b2), (3, .int b3), (4, .int b4), (5, .int b5)] [.int t0] w := by
    intro k3 hk3 b1 b2 b3 b4 b5 t0 w hm
    unfold X0_layOut_L38 at hm
    refine x_istore (lv' := [(6, .int t0), (0, .ref (ad g 0)), (1, .int b1), (2, .int b2), (3, .int b3), (4, .int b4), (5, .int b5)]) E dX0_layOut_38 (by decide) rfl ?_
    refine x_aload_n E dX0_layOut_40 rfl 1 rfl ?_
    refine x_gf (v := .ref (ad g 3)) E fr_X0_18 hg rfl dX0_layOut_41 ?_
    refine x_iload E dX0_layOut_44 6 rfl ?_
    refine x_iload_n E dX0_layOut_46 rfl 4 rfl ?_
    refine x_iconst (v := (iI (-1))) E dX0_layOut_47 (by decide) ?_
    refine x_icmp_eq (tgt := 56) E dX0_layOut_48 (by decide) hm (fun _ hm => ?_) (fun _ hm => ?_)
    · refine x_iload_n E dX0_layOut_56 rfl 4 rfl ?_
      refine x_goto (tgt := 64) E dX0_layOut_57 (by decide) ?_
      exact x_weak [1, 2, 3, 4, 5, 6, 0] rfl ((hL64 _ hk3) b1 b2 b3 b4 b5 t0 b3 b5 w hm)
    · refine x_iload E dX0_layOut_51 0 rfl ?_
      refine x_if_eq (tgt := 60) E dX0_layOut_53 (by decide) hm (fun _ hm => ?_) (fun _ hm => ?_)
      · refine x_iload_n E dX0_layOut_60 rfl 4 rfl ?_
        refine x_iload E dX0_layOut_61 5 rfl ?_
        refine x_iadd E dX0_layOut_63 ?_
        exact x_weak [1, 2, 3, 4, 5, 6, 0] rfl ((hL64 _ hk3) b1 b2 b3 b4 b5 t0 (b3 + b4) b5 w hm)
      · refine x_iload_n E dX0_layOut_56 rfl 4 rfl ?_
        refine x_goto (tgt := 64) E dX0_layOut_57 (by decide) ?_
        exact x_weak [1, 2, 3, 4, 5, 6, 0] rfl ((hL64 _ hk3) b1 b2 b3 b4 b5 t0 b3 b5 w hm)
  have hL3 : ∀ (fuel : Nat) (b1 : Int32) (b2 : Int32) (b3 : Int32) (b4 : Int32) (w : Wd), X0_layOut_L3 fuel g b1 b2 b3 b4 w = some w' → XV p l e { frames := 3, cells := 0, slots := 0, locals := 62 } s m args below meth c 7 D cs ad (MQ below (xQ D cs ad none w') args s 0 0 (xF ad)) 3 [(0, .ref (ad g 0)), (1, .int b1), (2, .int b2), (3, .int b3), (4, .int b4)] [] w := by
    intro fuel
    induction fuel with
    | zero => intro b1 b2 b3 b4 w hm; cases hm
    | succ fuel ih =>
      intro b1 b2 b3 b4 w hm
      rw [X0_layOut_L3] at hm
      refine x_iload E dX0_layOut_3 4 rfl ?_
      refine x_iconst (v := (iI 3)) E dX0_layOut_5 (by decide) ?_
      refine x_icmp_ge (tgt := 104) E dX0_layOut_6 (by decide) hm (fun _ hm => ?_) (fun _ hm => ?_)
      · exact x_vretS E hm dX0_layOut_104
      · refine x_iload_n E dX0_layOut_9 rfl 1 rfl ?_
        refine x_iconst (v := (iI 3)) E dX0_layOut_10 (by decide) ?_
        refine x_imul E dX0_layOut_11 ?_
        refine x_iload E dX0_layOut_12 4 rfl ?_
        refine x_iadd E dX0_layOut_14 ?_
        refine x_bipush (v := (iI 8)) E dX0_layOut_15 (by decide) ?_
        refine x_imul E dX0_layOut_17 ?_
        refine x_iload_n E dX0_layOut_18 rfl 2 rfl ?_
        refine x_iadd E dX0_layOut_19 ?_
        refine x_bI hm (fun x_1 hm => ?_)
        refine x_istore (lv' := [(5, .int x_1), (0, .ref (ad g 0)), (1, .int b1), (2, .int b2), (3, .int b3), (4, .int b4)]) E dX0_layOut_20 (by decide) rfl ?_
        refine x_iload_n E dX0_layOut_22 rfl 4 rfl ?_
        refine x_iconst (v := (iI (-1))) E dX0_layOut_23 (by decide) ?_
        refine x_icmp_eq (tgt := 37) E dX0_layOut_24 (by decide) hm (fun _ hm => ?_) (fun _ hm => ?_)
        · refine x_iconst (v := (iI 0)) E dX0_layOut_37 (by decide) ?_
          exact x_weak [1, 2, 3, 4, 5, 0] rfl ((hL38 _ (ih)) b1 b2 b3 b4 x_1 (iI 0) w hm)
        · refine x_iload_n E dX0_layOut_27 rfl 4 rfl ?_
          refine x_iconst (v := (iI 3)) E dX0_layOut_28 (by decide) ?_
          refine x_irem E dX0_layOut_29 (by decide) ?_
          refine x_if_eq (tgt := 37) E dX0_layOut_30 (by decide) hm (fun _ hm => ?_) (fun _ hm => ?_)
          · refine x_iconst (v := (iI 0)) E dX0_layOut_37 (by decide) ?_
            exact x_weak [1, 2, 3, 4, 5, 0] rfl ((hL38 _ (ih)) b1 b2 b3 b4 x_1 (iI 0) w hm)
          · refine x_iconst (v := (iI 1)) E dX0_layOut_33 (by decide) ?_
            refine x_goto (tgt := 38) E dX0_layOut_34 (by decide) ?_
            exact x_weak [1, 2, 3, 4, 5, 0] rfl ((hL38 _ (ih)) b1 b2 b3 b4 x_1 (iI 1) w hm)
  unfold X0_layOut at hm
  refine x_iconst (v := (iI 0)) E dX0_layOut_0 (by decide) ?_
  refine x_istore (lv' := [(4, .int (iI 0)), (0, .ref (ad g 0)), (1, .int a1), (2, .int a2), (3, .int a3)]) E dX0_layOut_1 (by decide) rfl ?_
  exact x_weak [1, 2, 3, 4, 0] rfl ((hL3 1000) a1 a2 a3 (iI 0) w hm)
set_option maxRecDepth 100000 in
set_option maxHeartbeats 4000000 in
theorem c_X0_moveIn (l : Launch) (D : va_G) (cs : vCs) (ad : Nat → Nat → Nat) {w : Wd} {g : Nat} {a1 : Int32} {a2 : Int32} (hg : kl g = 0) {r : Int32} (hm : X0_moveIn w g a1 a2 = some r) : Mc l yX0_moveIn cX0_moveIn 3 (some .int) 0 0 D cs ad [.ref (ad g 0), .int a1, .int a2] w (some (.int r)) w := by
  refine Mc.of (by decide) (Nat.le_of_ble_eq_true rfl) ?_
  intro p e s m args below meth c E
  replace E : EV p m c cX0_moveIn 3 s args RX0 yX0_moveIn (some .int) meth D cs ad := E
  unfold X0_moveIn at hm
  refine x_iload_n E dX0_moveIn_0 rfl 1 rfl ?_
  refine x_if_lt (tgt := 19) E dX0_moveIn_1 (by decide) hm (fun _ hm => ?_) (fun _ hm => ?_)
  · refine x_iconst (v := (iI (-1))) E dX0_moveIn_19 (by decide) ?_
    exact x_iretP E hm dX0_moveIn_20
  · refine x_iload_n E dX0_moveIn_4 rfl 1 rfl ?_
    refine x_iconst (v := (iI 5)) E dX0_moveIn_5 (by decide) ?_
    refine x_icmp_ge (tgt := 19) E dX0_moveIn_6 (by decide) hm (fun _ hm => ?_) (fun _ hm => ?_)
    · refine x_iconst (v := (iI (-1))) E dX0_moveIn_19 (by decide) ?_
      exact x_iretP E hm dX0_moveIn_20
    · refine x_iload_n E dX0_moveIn_9 rfl 2 rfl ?_
      refine x_if_lt (tgt := 19) E dX0_moveIn_10 (by decide) hm (fun _ hm => ?_) (fun _ hm => ?_)
      · refine x_iconst (v := (iI (-1))) E dX0_moveIn_19 (by decide) ?_
        exact x_iretP E hm dX0_moveIn_20
      · refine x_iload_n E dX0_moveIn_13 rfl 2 rfl ?_
        refine x_bipush (v := (iI 8)) E dX0_moveIn_14 (by decide) ?_
        refine x_icmp_lt (tgt := 21) E dX0_moveIn_16 (by decide) hm (fun _ hm => ?_) (fun _ hm => ?_)
        · refine x_aload_n E dX0_moveIn_21 rfl 0 rfl ?_
          refine x_gf (v := .ref (ad g 2)) E fr_X0_15 hg rfl dX0_moveIn_22 ?_
          refine x_iload_n E dX0_moveIn_25 rfl 1 rfl ?_
          refine x_bipush (v := (iI 8)) E dX0_moveIn_26 (by decide) ?_
          refine x_imul E dX0_moveIn_28 ?_
          refine x_iload_n E dX0_moveIn_29 rfl 2 rfl ?_
          refine x_iadd E dX0_moveIn_30 ?_
          refine x_iald E hg rfl (by decide) dX0_moveIn_31 hm (fun x_1 hm => ?_)
          exact x_iretP E hm dX0_moveIn_32
        · refine x_iconst (v := (iI (-1))) E dX0_moveIn_19 (by decide) ?_
          exact x_iretP E hm dX0_moveIn_20
set_option maxRecDepth 100000 in
set_option maxHeartbeats 4000000 in
theorem c_X0_nextMode (l : Launch) (D : va_G) (cs : vCs) (ad : Nat → Nat → Nat) {w : Wd} {g : Nat} {a1 : Int32} {a2 : Int32} (hg : kl g = 0) {r : Int32} (hm : X0_nextMode w g a1 a2 = some r) : Mc l yX0_nextMode cX0_nextMode 4 (some .int) 1 22 D cs ad [.ref (ad g 0), .int a1, .int a2] w (some (.int r)) w := by
  refine Mc.of (by decide) (Nat.le_of_ble_eq_true rfl) ?_
  intro p e s m args below meth c E
  replace E : EV p m c cX0_nextMode 4 s args RX0 yX0_nextMode (some .int) meth D cs ad := E
  unfold X0_nextMode at hm
  refine x_aload_n E dX0_nextMode_0 rfl 0 rfl ?_
  refine x_iload_n E dX0_nextMode_1 rfl 1 rfl ?_
  refine x_iload_n E dX0_nextMode_2 rfl 2 rfl ?_
  obtain ⟨r_1, hc, hm⟩ := ob_inv hm
  refine x_callV (As := [.int a1, .int a2]) (rest := []) E my_X0_moveIn wG374 (c_X0_moveIn l D cs ad hg hc) hg rfl rfl ⟨Nat.le_of_ble_eq_true rfl, Nat.le_of_ble_eq_true rfl⟩ (Nat.le_of_ble_eq_true rfl) dX0_nextMode_3 ?_
  refine x_istore_n (lv' := [(3, .int r_1), (0, .ref (ad g 0)), (1, .int a1), (2, .int a2)]) E dX0_nextMode_6 rfl (by decide) rfl ?_
  refine x_iload_n E dX0_nextMode_7 rfl 0 rfl ?_
  refine x_iconst (v := (iI (-1))) E dX0_nextMode_8 (by decide) ?_
  refine x_icmp_ne (tgt := 16) E dX0_nextMode_9 (by decide) hm (fun _ hm => ?_) (fun _ hm => ?_)
  · refine x_iload_n E dX0_nextMode_16 rfl 0 rfl ?_
    refine x_iconst (v := (iI 3)) E dX0_nextMode_17 (by decide) ?_
    refine x_idiv E dX0_nextMode_18 (by decide) ?_
    exact x_iretP E hm dX0_nextMode_19
  · refine x_iconst (v := (iI (-1))) E dX0_nextMode_12 (by decide) ?_
    refine x_goto (tgt := 19) E dX0_nextMode_13 (by decide) ?_
    exact x_iretP E hm dX0_nextMode_19
set_option maxRecDepth 100000 in
set_option maxHeartbeats 4000000 in
theorem c_X0_lengthenWays (l : Launch) (D : va_G) (cs : vCs) (ad : Nat → Nat → Nat) {w : Wd} {g : Nat} (hg : kl g = 0) {w' : Wd} (hm : X0_lengthenWays w g = some w') : Mc l yX0_lengthenWays cX0_lengthenWays 4 none 2 80 D cs ad [.ref (ad g 0)] w none w' := by
  refine Mc.of (by decide) (Nat.le_of_ble_eq_true rfl) ?_
  intro p e s m args below meth c E
  replace E : EV p m c cX0_lengthenWays 4 s args RX0 yX0_lengthenWays none meth D cs ad := E
  have hL20 : ∀ (fuel : Nat) (k63 : Int32 → Wd → Option Wd) (hk63 : ∀ (b1 : Int32) (w : Wd), k63 b1 w = some w' → XV p l e { frames := 2, cells := 0, slots := 0, locals := 80 } s m args below meth c 4 D cs ad (MQ below (xQ D cs ad none w') args s 0 0 (xF ad)) 63 [(0, .ref (ad g 0)), (1, .int b1)] [] w) (b1 : Int32) (b2 : Int32) (w : Wd), X0_lengthenWays_L20 fuel k63 g b1 b2 w = some w' → XV p l e { frames := 2, cells := 0, slots := 0, locals := 80 } s m args below meth c 4 D cs ad (MQ below (xQ D cs ad none w') args s 0 0 (xF ad)) 20 [(0, .ref (ad g 0)), (1, .int b1), (2, .int b2)] [] w := by
    intro fuel
    induction fuel with
    | zero => intro k63 hk63 b1 b2 w hm; cases hm
    | succ fuel ih =>
      intro k63 hk63 b1 b2 w hm
      rw [X0_lengthenWays_L20] at hm
      refine x_iload_n E dX0_lengthenWays_20 rfl 2 rfl ?_
      refine x_bipush (v := (iI 8)) E dX0_lengthenWays_21 (by decide) ?_
      refine x_icmp_ge (tgt := 63) E dX0_lengthenWays_23 (by decide) hm (fun _ hm => ?_) (fun _ hm => ?_)
      · exact x_weak [0, 1] rfl (hk63 b1 w hm)
      · refine x_aload_n E dX0_lengthenWays_26 rfl 0 rfl ?_
        refine x_iload_n E dX0_lengthenWays_27 rfl 1 rfl ?_
        refine x_iload_n E dX0_lengthenWays_28 rfl 2 rfl ?_
        obtain ⟨r_2, hc, hm⟩ := ob_inv hm
        refine x_callV (As := [.int b1, .int b2]) (rest := []) E my_X0_nextMode wG582 (c_X0_nextMode l D cs ad hg hc) hg rfl rfl ⟨Nat.le_of_ble_eq_true rfl, Nat.le_of_ble_eq_true rfl⟩ (Nat.le_of_ble_eq_true rfl) dX0_lengthenWays_29 ?_
        refine x_istore_n (lv' := [(3, .int r_2), (0, .ref (ad g 0)), (1, .int b1), (2, .int b2)]) E dX0_lengthenWays_32 rfl (by decide) rfl ?_
        refine x_iload_n E dX0_lengthenWays_33 rfl 0 rfl ?_
        refine x_if_lt (tgt := 57) E dX0_lengthenWays_34 (by decide) hm (fun _ hm => ?_) (fun _ hm => ?_)
        · refine x_iincB (lv' := fun x_3 => [(2, .int x_3), (3, .int r_2), (0, .ref (ad g 0)), (1, .int b1)]) (j := 3) E dX0_lengthenWays_57 rfl rfl (by decide) (fun _ => rfl) hm (fun x_3 hm => ?_)
          refine x_goto (tgt := 20) E dX0_lengthenWays_60 (by decide) ?_
          exact x_weak [2, 3, 0] rfl ((ih _ hk63) b1 x_3 w hm)
        · refine x_iload_n E dX0_lengthenWays_37 rfl 0 rfl ?_
          refine x_iconst (v := (iI 5)) E dX0_lengthenWays_38 (by decide) ?_
          refine x_icmp_ge (tgt := 57) E dX0_lengthenWays_39 (by decide) hm (fun _ hm => ?_) (fun _ hm => ?_)
          · refine x_iincB (lv' := fun x_4 => [(2, .int x_4), (3, .int r_2), (0, .ref (ad g 0)), (1, .int b1)]) (j := 3) E dX0_lengthenWays_57 rfl rfl (by decide) (fun _ => rfl) hm (fun x_4 hm => ?_)
            refine x_goto (tgt := 20) E dX0_lengthenWays_60 (by decide) ?_
            exact x_weak [2, 3, 0] rfl ((ih _ hk63) b1 x_4 w hm)
          · refine x_aload_n E dX0_lengthenWays_42 rfl 1 rfl ?_
            refine x_gf (v := .ref (ad g 6)) E fr_X0_27 hg rfl dX0_lengthenWays_43 ?_
            refine x_iload_n E dX0_lengthenWays_46 rfl 0 rfl ?_
            refine x_dup2 E dX0_lengthenWays_47 rfl rfl ?_
            refine x_iald E hg rfl (by decide) dX0_lengthenWays_48 hm (fun x_5 hm => ?_)
            refine x_aload_n E dX0_lengthenWays_49 rfl 1 rfl ?_
            refine x_gf (v := .ref (ad g 5)) E fr_X0_24 hg rfl dX0_lengthenWays_50 ?_
            refine x_iload_n E dX0_lengthenWays_53 rfl 2 rfl ?_
            refine x_iald E hg rfl (by decide) dX0_lengthenWays_54 hm (fun x_6 hm => ?_)
            refine x_iadd E dX0_lengthenWays_55 ?_
            refine x_iast E hg rfl (by decide) dX0_lengthenWays_56 hm (fun w_7 hm => ?_)
            refine x_iincB (lv' := fun x_8 => [(2, .int x_8), (3, .int r_2), (0, .ref (ad g 0)), (1, .int b1)]) (j := 3) E dX0_lengthenWays_57 rfl rfl (by decide) (fun _ => rfl) hm (fun x_8 hm => ?_)
            refine x_goto (tgt := 20) E dX0_lengthenWays_60 (by decide) ?_
            exact x_weak [2, 3, 0] rfl ((ih _ hk63) b1 x_8 w_7 hm)
  have hL63 : ∀ (k10 : Int32 → Wd → Option Wd) (hk10 : ∀ (b1 : Int32) (w : Wd), k10 b1 w = some w' → XV p l e { frames := 2, cells := 0, slots := 0, locals := 80 } s m args below meth c 4 D cs ad (MQ below (xQ D cs ad none w') args s 0 0 (xF ad)) 10 [(0, .ref (ad g 0)), (1, .int b1)] [] w) (b1 : Int32) (w : Wd), X0_lengthenWays_L63 k10 g b1 w = some w' → XV p l e { frames := 2, cells := 0, slots := 0, locals := 80 } s m args below meth c 4 D cs ad (MQ below (xQ D cs ad none w') args s 0 0 (xF ad)) 63 [(0, .ref (ad g 0)), (1, .int b1)] [] w := by
    intro k10 hk10 b1 w hm
    unfold X0_lengthenWays_L63 at hm
    refine x_iincB (lv' := fun x_10 => [(1, .int x_10), (0, .ref (ad g 0))]) (j := 1) E dX0_lengthenWays_63 rfl rfl (by decide) (fun _ => rfl) hm (fun x_10 hm => ?_)
    refine x_goto (tgt := 10) E dX0_lengthenWays_66 (by decide) ?_
    exact x_weak [1, 0] rfl (hk10 x_10 w hm)
  have hL10 : ∀ (fuel : Nat) (k69 : Wd → Option Wd) (hk69 : ∀ (w : Wd), k69 w = some w' → XV p l e { frames := 2, cells := 0, slots := 0, locals := 80 } s m args below meth c 4 D cs ad (MQ below (xQ D cs ad none w') args s 0 0 (xF ad)) 69 [(0, .ref (ad g 0))] [] w) (b1 : Int32) (w : Wd), X0_lengthenWays_L10 fuel k69 g b1 w = some w' → XV p l e { frames := 2, cells := 0, slots := 0, locals := 80 } s m args below meth c 4 D cs ad (MQ below (xQ D cs ad none w') args s 0 0 (xF ad)) 10 [(0, .ref (ad g 0)), (1, .int b1)] [] w := by
    intro fuel
    induction fuel with
    | zero => intro k69 hk69 b1 w hm; cases hm
    | succ fuel ih =>
      intro k69 hk69 b1 w hm
      rw [X0_lengthenWays_L10] at hm
      refine x_iload_n E dX0_lengthenWays_10 rfl 1 rfl ?_
      refine x_aload_n E dX0_lengthenWays_11 rfl 0 rfl ?_
      refine x_gf (v := .int (rd w g 0 3)) E fr_X0_55 hg rfl dX0_lengthenWays_12 ?_
      refine x_icmp_ge (tgt := 69) E dX0_lengthenWays_15 (by decide) hm (fun _ hm => ?_) (fun _ hm => ?_)
      · exact x_weak [0] rfl (hk69 w hm)
      · refine x_iconst (v := (iI 0)) E dX0_lengthenWays_18 (by decide) ?_
        refine x_istore_n (lv' := [(2, .int (iI 0)), (0, .ref (ad g 0)), (1, .int b1)]) E dX0_lengthenWays_19 rfl (by decide) rfl ?_
        exact x_weak [1, 2, 0] rfl ((hL20 1000 _ (hL63 _ (ih _ hk69))) b1 (iI 0) w hm)
  have hL69 : ∀ (w : Wd), X0_lengthenWays_L69 g w = some w' → XV p l e { frames := 2, cells := 0, slots := 0, locals := 80 } s m args below meth c 4 D cs ad (MQ below (xQ D cs ad none w') args s 0 0 (xF ad)) 69 [(0, .ref (ad g 0))] [] w := by
    intro w hm
    unfold X0_lengthenWays_L69 at hm
    refine x_aload_n E dX0_lengthenWays_69 rfl 0 rfl ?_
    refine x_gf (v := .ref (ad g 6)) E fr_X0_27 hg rfl dX0_lengthenWays_70 ?_
    refine x_iconst (v := (iI 0)) E dX0_lengthenWays_73 (by decide) ?_
    refine x_aload_n E dX0_lengthenWays_74 rfl 0 rfl ?_
    refine x_gf (v := .ref (ad g 5)) E fr_X0_24 hg rfl dX0_lengthenWays_75 ?_
    refine x_iconst (v := (iI 0)) E dX0_lengthenWays_78 (by decide) ?_
    refine x_iconst (v := (iI 5)) E dX0_lengthenWays_79 (by decide) ?_
    refine x_copy (nn := 5) E wG583 wG531 wG530 wG91 hg hg rfl rfl (by decide) rfl (by decide) (by decide) (by decide) (Nat.le_of_ble_eq_true rfl) (Nat.le_of_ble_eq_true rfl) dX0_lengthenWays_80 ?_
    refine x_bW hm (fun w_9 hm => ?_)
    exact x_vretS E hm dX0_lengthenWays_83
  unfold X0_lengthenWays at hm
  refine x_aload_n E dX0_lengthenWays_0 rfl 0 rfl ?_
  refine x_gf (v := .ref (ad g 6)) E fr_X0_27 hg rfl dX0_lengthenWays_1 ?_
  refine x_iconst (v := (iI 0)) E dX0_lengthenWays_4 (by decide) ?_
  refine x_callS (As := [.ref (ad g 6), .int (iI 0)]) (rest := []) E my_fill wG577 (c_fill l D cs ad hg rfl (by decide) (by decide)) rfl ⟨Nat.le_of_ble_eq_true rfl, Nat.le_of_ble_eq_true rfl⟩ (Nat.le_of_ble_eq_true rfl) dX0_lengthenWays_5 ?_
  refine x_bW hm (fun w_1 hm => ?_)
  refine x_iconst (v := (iI 0)) E dX0_lengthenWays_8 (by decide) ?_
  refine x_istore_n (lv' := [(1, .int (iI 0)), (0, .ref (ad g 0))]) E dX0_lengthenWays_9 rfl (by decide) rfl ?_
  exact x_weak [1, 0] rfl ((hL10 1000 _ (hL69)) (iI 0) w_1 hm)
set_option maxRecDepth 100000 in
set_option maxHeartbeats 4000000 in
theorem c_X2_kindOf (l : Launch) (D : va_G) (cs : vCs) (ad : Nat → Nat → Nat) {w : Wd} {a0 : Int32} {r : Int32} (hm : X2_kindOf a0 = r) : Mc l yX2_kindOf cX2_kindOf 1 (some .int) 0 0 D cs ad [.int a0] w (some (.int r)) w := by
  refine Mc.of (by decide) (Nat.le_of_ble_eq_true rfl) ?_
  intro p e s m args below meth c E
  replace E : EV p m c cX2_kindOf 1 s args RX2 yX2_kindOf (some .int) meth D cs ad := E
  unfold X2_kindOf at hm
  refine x_iload_n E dX2_kindOf_0 rfl 0 rfl ?_
  refine x_split hm (fun hx hm => ?_) (fun hs0 hm => ?_)
  · refine x_lsw (off := 47) (tgt := 48) E dX2_kindOf_1 (by decide) (by rw [hx] <;> decide) (by decide) ?_
    refine x_iconst (v := (iI 2)) E dX2_kindOf_48 (by decide) ?_
    exact x_iretT E hm dX2_kindOf_49
  refine x_split hm (fun hx hm => ?_) (fun hs1 hm => ?_)
  · refine x_lsw (off := 43) (tgt := 44) E dX2_kindOf_1 (by decide) (by rw [hx] <;> decide) (by decide) ?_
    refine x_iconst (v := (iI 0)) E dX2_kindOf_44 (by decide) ?_
    exact x_iretT E hm dX2_kindOf_45
  refine x_split hm (fun hx hm => ?_) (fun hs2 hm => ?_)
  · refine x_lsw (off := 45) (tgt := 46) E dX2_kindOf_1 (by decide) (by rw [hx] <;> decide) (by decide) ?_
    refine x_iconst (v := (iI 1)) E dX2_kindOf_46 (by decide) ?_
    exact x_iretT E hm dX2_kindOf_47
  refine x_split hm (fun hx hm => ?_) (fun hs3 hm => ?_)
  · refine x_lsw (off := 49) (tgt := 50) E dX2_kindOf_1 (by decide) (by rw [hx] <;> decide) (by decide) ?_
    refine x_iconst (v := (iI 3)) E dX2_kindOf_50 (by decide) ?_
    exact x_iretT E hm dX2_kindOf_51
  refine x_lsw (off := 51) (tgt := 52) E dX2_kindOf_1 (by decide) ((lv_osw hs0 rfl).trans ((lv_osw hs1 rfl).trans ((lv_osw hs2 rfl).trans ((lv_osw hs3 rfl).trans rfl)))) (by decide) ?_
  refine x_iconst (v := (iI (-1))) E dX2_kindOf_52 (by decide) ?_
  exact x_iretT E hm dX2_kindOf_53
set_option maxRecDepth 100000 in
set_option maxHeartbeats 4000000 in
theorem c_X0_modesOf (l : Launch) (D : va_G) (cs : vCs) (ad : Nat → Nat → Nat) {w : Wd} {a0 : Int32} {r : Int32} (hm : X0_modesOf a0 = r) : Mc l yX0_modesOf cX0_modesOf 1 (some .int) 0 0 D cs ad [.int a0] w (some (.int r)) w := by
  refine Mc.of (by decide) (Nat.le_of_ble_eq_true rfl) ?_
  intro p e s m args below meth c E
  replace E : EV p m c cX0_modesOf 1 s args RX0 yX0_modesOf (some .int) meth D cs ad := E
  unfold X0_modesOf at hm
  refine x_iload_n E dX0_modesOf_0 rfl 0 rfl ?_
  refine x_iconst (v := (iI 2)) E dX0_modesOf_1 (by decide) ?_
  refine x_icmp_ne (tgt := 7) E dX0_modesOf_2 (by decide) hm (fun _ hm => ?_) (fun _ hm => ?_)
  · refine x_iload_n E dX0_modesOf_7 rfl 0 rfl ?_
    refine x_if_ne (tgt := 15) E dX0_modesOf_8 (by decide) hm (fun _ hm => ?_) (fun _ hm => ?_)
    · refine x_iconst (v := (iI 2)) E dX0_modesOf_15 (by decide) ?_
      exact x_iretT E hm dX0_modesOf_16
    · refine x_iconst (v := (iI 1)) E dX0_modesOf_11 (by decide) ?_
      refine x_goto (tgt := 16) E dX0_modesOf_12 (by decide) ?_
      exact x_iretT E hm dX0_modesOf_16
  · refine x_iconst (v := (iI 5)) E dX0_modesOf_5 (by decide) ?_
    exact x_iretT E hm dX0_modesOf_6
set_option maxRecDepth 100000 in
set_option maxHeartbeats 4000000 in
theorem c_X0_markOf (l : Launch) (D : va_G) (cs : vCs) (ad : Nat → Nat → Nat) {w : Wd} {g : Nat} {a1 : Int32} {a2 : Int32} (hg : kl g = 0) {r : Int32} (hm : X0_markOf w g a1 a2 = some r) : Mc l yX0_markOf cX0_markOf 4 (some .int) 1 20 D cs ad [.ref (ad g 0), .int a1, .int a2] w (some (.int r)) w := by
  refine Mc.of (by decide) (Nat.le_of_ble_eq_true rfl) ?_
  intro p e s m args below meth c E
  replace E : EV p m c cX0_markOf 4 s args RX0 yX0_markOf (some .int) meth D cs ad := E
  unfold X0_markOf at hm
  refine x_aload_n E dX0_markOf_0 rfl 0 rfl ?_
  refine x_gf (v := .int (rd w g 0 2)) E fr_X0_46 hg rfl dX0_markOf_1 ?_
  refine x_callS (As := [.int (rd w g 0 2)]) (rest := []) E my_X2_marksBegin wG329 (c_X2_marksBegin l D cs ad rfl) rfl ⟨Nat.le_of_ble_eq_true rfl, Nat.le_of_ble_eq_true rfl⟩ (Nat.le_of_ble_eq_true rfl) dX0_markOf_4 ?_
  refine x_iload_n E dX0_markOf_7 rfl 1 rfl ?_
  refine x_bipush (v := (iI 8)) E dX0_markOf_8 (by decide) ?_
  refine x_imul E dX0_markOf_10 ?_
  refine x_iadd E dX0_markOf_11 ?_
  refine x_iload_n E dX0_markOf_12 rfl 2 rfl ?_
  refine x_iadd E dX0_markOf_13 ?_
  refine x_bI hm (fun x_1 hm => ?_)
  refine x_istore_n (lv' := [(3, .int x_1), (0, .ref (ad g 0)), (1, .int a1), (2, .int a2)]) E dX0_markOf_14 rfl (by decide) rfl ?_
  refine x_iload_n E dX0_markOf_15 rfl 0 rfl ?_
  refine x_if_lt (tgt := 36) E dX0_markOf_16 (by decide) hm (fun _ hm => ?_) (fun _ hm => ?_)
  · refine x_bipush (v := (iI 33)) E dX0_markOf_36 (by decide) ?_
    exact x_iretP E hm dX0_markOf_38
  · refine x_iload_n E dX0_markOf_19 rfl 0 rfl ?_
    refine x_aload_n E dX0_markOf_20 rfl 1 rfl ?_
    refine x_gf (v := .int (rd w g 0 1)) E fr_X0_36 hg rfl dX0_markOf_21 ?_
    refine x_icmp_ge (tgt := 36) E dX0_markOf_24 (by decide) hm (fun _ hm => ?_) (fun _ hm => ?_)
    · refine x_bipush (v := (iI 33)) E dX0_markOf_36 (by decide) ?_
      exact x_iretP E hm dX0_markOf_38
    · refine x_aload_n E dX0_markOf_27 rfl 1 rfl ?_
      refine x_gf (v := .ref (ad g 1)) E fr_X0_9 hg rfl dX0_markOf_28 ?_
      refine x_iload_n E dX0_markOf_31 rfl 0 rfl ?_
      refine x_iald E hg rfl (by decide) dX0_markOf_32 hm (fun x_2 hm => ?_)
      refine x_goto (tgt := 38) E dX0_markOf_33 (by decide) ?_
      exact x_iretP E hm dX0_markOf_38
set_option maxRecDepth 100000 in
set_option maxHeartbeats 4000000 in
theorem c_X0_wantedMove (l : Launch) (D : va_G) (cs : vCs) (ad : Nat → Nat → Nat) {w : Wd} {a0 : Int32} {a1 : Int32} {r : Int32} (hm : X0_wantedMove a0 a1 = r) : Mc l yX0_wantedMove cX0_wantedMove 2 (some .int) 0 0 D cs ad [.int a0, .int a1] w (some (.int r)) w := by
  refine Mc.of (by decide) (Nat.le_of_ble_eq_true rfl) ?_
  intro p e s m args below meth c E
  replace E : EV p m c cX0_wantedMove 2 s args RX0 yX0_wantedMove (some .int) meth D cs ad := E
  unfold X0_wantedMove at hm
  refine x_iload_n E dX0_wantedMove_0 rfl 1 rfl ?_
  refine x_bipush (v := (iI 43)) E dX0_wantedMove_1 (by decide) ?_
  refine x_icmp_eq (tgt := 8) E dX0_wantedMove_3 (by decide) hm (fun _ hm => ?_) (fun _ hm => ?_)
  · refine x_iload_n E dX0_wantedMove_8 rfl 0 rfl ?_
    refine x_split hm (fun hx hm => ?_) (fun hs0 hm => ?_)
    · refine x_tin (kv := (iI 1)) (tgt := 40) E dX0_wantedMove_9 hx rfl (by decide) (by decide) rfl (by decide) ?_
      refine x_iconst (v := (iI 1)) E dX0_wantedMove_40 (by decide) ?_
      exact x_iretT E hm dX0_wantedMove_41
    refine x_split hm (fun hx hm => ?_) (fun hs1 hm => ?_)
    · refine x_tin (kv := (iI 2)) (tgt := 42) E dX0_wantedMove_9 hx rfl (by decide) (by decide) rfl (by decide) ?_
      refine x_iconst (v := (iI 2)) E dX0_wantedMove_42 (by decide) ?_
      exact x_iretT E hm dX0_wantedMove_43
    refine x_split hm (fun hx hm => ?_) (fun hs2 hm => ?_)
    · refine x_tin (kv := (iI 3)) (tgt := 44) E dX0_wantedMove_9 hx rfl (by decide) (by decide) rfl (by decide) ?_
      refine x_iconst (v := (iI 3)) E dX0_wantedMove_44 (by decide) ?_
      exact x_iretT E hm dX0_wantedMove_45
    refine x_split hm (fun hx hm => ?_) (fun hs3 hm => ?_)
    · refine x_tin (kv := (iI 4)) (tgt := 46) E dX0_wantedMove_9 hx rfl (by decide) (by decide) rfl (by decide) ?_
      refine x_bipush (v := (iI 6)) E dX0_wantedMove_46 (by decide) ?_
      exact x_iretT E hm dX0_wantedMove_48
    refine x_tout (tgt := 49) E dX0_wantedMove_9 (by have := lv_neT (a := 1) hs0 rfl; have := lv_neT (a := 2) hs1 rfl; have := lv_neT (a := 3) hs2 rfl; have := lv_neT (a := 4) hs3 rfl; omega) (by decide) ?_
    refine x_iconst (v := (iI (-1))) E dX0_wantedMove_49 (by decide) ?_
    exact x_iretT E hm dX0_wantedMove_50
  · refine x_iconst (v := (iI (-1))) E dX0_wantedMove_6 (by decide) ?_
    exact x_iretT E hm dX0_wantedMove_7
set_option maxRecDepth 100000 in
set_option maxHeartbeats 4000000 in
theorem c_X0_moveOf (l : Launch) (D : va_G) (cs : vCs) (ad : Nat → Nat → Nat) {w : Wd} {g : Nat} {a1 : Int32} {a2 : Int32} (hg : kl g = 0) {r : Int32} (hm : X0_moveOf w g a1 a2 = some r) : Mc l yX0_moveOf cX0_moveOf 3 (some .int) 2 43 D cs ad [.ref (ad g 0), .int a1, .int a2] w (some (.int r)) w := by
  refine Mc.of (by decide) (Nat.le_of_ble_eq_true rfl) ?_
  intro p e s m args below meth c E
  replace E : EV p m c cX0_moveOf 3 s args RX0 yX0_moveOf (some .int) meth D cs ad := E
  unfold X0_moveOf at hm
  refine x_aload_n E dX0_moveOf_0 rfl 0 rfl ?_
  refine x_gf (v := .int (rd w g 0 2)) E fr_X0_46 hg rfl dX0_moveOf_1 ?_
  refine x_split hm (fun hx hm => ?_) (fun hs0 hm => ?_)
  · refine x_tin (kv := (iI 0)) (tgt := 36) E dX0_moveOf_4 hx rfl (by decide) (by decide) rfl (by decide) ?_
    refine x_iconst (v := (iI 0)) E dX0_moveOf_36 (by decide) ?_
    refine x_aload_n E dX0_moveOf_37 rfl 0 rfl ?_
    refine x_iconst (v := (iI 0)) E dX0_moveOf_38 (by decide) ?_
    refine x_iload_n E dX0_moveOf_39 rfl 2 rfl ?_
    obtain ⟨r_1, hc, hm⟩ := ob_inv hm
    refine x_callV (As := [.int (iI 0), .int a2]) (rest := [.int (iI 0)]) E my_X0_markOf wG325 (c_X0_markOf l D cs ad hg hc) hg rfl rfl ⟨Nat.le_of_ble_eq_true rfl, Nat.le_of_ble_eq_true rfl⟩ (Nat.le_of_ble_eq_true rfl) dX0_moveOf_40 ?_
    refine x_callS (As := [.int (iI 0), .int r_1]) (rest := []) E my_X0_signMove wG330 (c_X0_signMove l D cs ad rfl) rfl ⟨Nat.le_of_ble_eq_true rfl, Nat.le_of_ble_eq_true rfl⟩ (Nat.le_of_ble_eq_true rfl) dX0_moveOf_43 ?_
    exact x_iretP E hm dX0_moveOf_46
  refine x_split hm (fun hx hm => ?_) (fun hs1 hm => ?_)
  · refine x_tin (kv := (iI 1)) (tgt := 47) E dX0_moveOf_4 hx rfl (by decide) (by decide) rfl (by decide) ?_
    refine x_iload_n E dX0_moveOf_47 rfl 1 rfl ?_
    refine x_if_ne (tgt := 63) E dX0_moveOf_48 (by decide) hm (fun _ hm => ?_) (fun _ hm => ?_)
    · refine x_iconst (v := (iI 0)) E dX0_moveOf_63 (by decide) ?_
      refine x_aload_n E dX0_moveOf_64 rfl 0 rfl ?_
      refine x_iconst (v := (iI 0)) E dX0_moveOf_65 (by decide) ?_
      refine x_iload_n E dX0_moveOf_66 rfl 2 rfl ?_
      obtain ⟨r_2, hc, hm⟩ := ob_inv hm
      refine x_callV (As := [.int (iI 0), .int a2]) (rest := [.int (iI 0)]) E my_X0_markOf wG325 (c_X0_markOf l D cs ad hg hc) hg rfl rfl ⟨Nat.le_of_ble_eq_true rfl, Nat.le_of_ble_eq_true rfl⟩ (Nat.le_of_ble_eq_true rfl) dX0_moveOf_67 ?_
      refine x_callS (As := [.int (iI 0), .int r_2]) (rest := []) E my_X0_signMove wG330 (c_X0_signMove l D cs ad rfl) rfl ⟨Nat.le_of_ble_eq_true rfl, Nat.le_of_ble_eq_true rfl⟩ (Nat.le_of_ble_eq_true rfl) dX0_moveOf_70 ?_
      exact x_iretP E hm dX0_moveOf_73
    · refine x_iload_n E dX0_moveOf_51 rfl 2 rfl ?_
      refine x_aload_n E dX0_moveOf_52 rfl 0 rfl ?_
      refine x_gf (v := .int (rd w g 0 4)) E fr_X0_49 hg rfl dX0_moveOf_53 ?_
      refine x_icmp_lt (tgt := 63) E dX0_moveOf_56 (by decide) hm (fun _ hm => ?_) (fun _ hm => ?_)
      · refine x_iconst (v := (iI 0)) E dX0_moveOf_63 (by decide) ?_
        refine x_aload_n E dX0_moveOf_64 rfl 0 rfl ?_
        refine x_iconst (v := (iI 0)) E dX0_moveOf_65 (by decide) ?_
        refine x_iload_n E dX0_moveOf_66 rfl 2 rfl ?_
        obtain ⟨r_3, hc, hm⟩ := ob_inv hm
        refine x_callV (As := [.int (iI 0), .int a2]) (rest := [.int (iI 0)]) E my_X0_markOf wG325 (c_X0_markOf l D cs ad hg hc) hg rfl rfl ⟨Nat.le_of_ble_eq_true rfl, Nat.le_of_ble_eq_true rfl⟩ (Nat.le_of_ble_eq_true rfl) dX0_moveOf_67 ?_
        refine x_callS (As := [.int (iI 0), .int r_3]) (rest := []) E my_X0_signMove wG330 (c_X0_signMove l D cs ad rfl) rfl ⟨Nat.le_of_ble_eq_true rfl, Nat.le_of_ble_eq_true rfl⟩ (Nat.le_of_ble_eq_true rfl) dX0_moveOf_70 ?_
        exact x_iretP E hm dX0_moveOf_73
      · refine x_iconst (v := (iI 3)) E dX0_moveOf_59 (by decide) ?_
        refine x_goto (tgt := 73) E dX0_moveOf_60 (by decide) ?_
        exact x_iretP E hm dX0_moveOf_73
  refine x_split hm (fun hx hm => ?_) (fun hs2 hm => ?_)
  · refine x_tin (kv := (iI 2)) (tgt := 74) E dX0_moveOf_4 hx rfl (by decide) (by decide) rfl (by decide) ?_
    refine x_iload_n E dX0_moveOf_74 rfl 1 rfl ?_
    refine x_if_ne (tgt := 90) E dX0_moveOf_75 (by decide) hm (fun _ hm => ?_) (fun _ hm => ?_)
    · refine x_iload_n E dX0_moveOf_90 rfl 1 rfl ?_
      refine x_aload_n E dX0_moveOf_91 rfl 0 rfl ?_
      refine x_iconst (v := (iI 0)) E dX0_moveOf_92 (by decide) ?_
      refine x_iload_n E dX0_moveOf_93 rfl 2 rfl ?_
      obtain ⟨r_4, hc, hm⟩ := ob_inv hm
      refine x_callV (As := [.int (iI 0), .int a2]) (rest := [.int a1]) E my_X0_markOf wG325 (c_X0_markOf l D cs ad hg hc) hg rfl rfl ⟨Nat.le_of_ble_eq_true rfl, Nat.le_of_ble_eq_true rfl⟩ (Nat.le_of_ble_eq_true rfl) dX0_moveOf_94 ?_
      refine x_callS (As := [.int a1, .int r_4]) (rest := []) E my_X0_wantedMove wG336 (c_X0_wantedMove l D cs ad rfl) rfl ⟨Nat.le_of_ble_eq_true rfl, Nat.le_of_ble_eq_true rfl⟩ (Nat.le_of_ble_eq_true rfl) dX0_moveOf_97 ?_
      exact x_iretP E hm dX0_moveOf_100
    · refine x_aload_n E dX0_moveOf_78 rfl 0 rfl ?_
      refine x_iconst (v := (iI 0)) E dX0_moveOf_79 (by decide) ?_
      refine x_iload_n E dX0_moveOf_80 rfl 2 rfl ?_
      obtain ⟨r_5, hc, hm⟩ := ob_inv hm
      refine x_callV (As := [.int (iI 0), .int a2]) (rest := []) E my_X0_markOf wG325 (c_X0_markOf l D cs ad hg hc) hg rfl rfl ⟨Nat.le_of_ble_eq_true rfl, Nat.le_of_ble_eq_true rfl⟩ (Nat.le_of_ble_eq_true rfl) dX0_moveOf_81 ?_
      refine x_callS (As := [.int r_5]) (rest := []) E my_X0_beginMove wG333 (c_X0_beginMove l D cs ad rfl) rfl ⟨Nat.le_of_ble_eq_true rfl, Nat.le_of_ble_eq_true rfl⟩ (Nat.le_of_ble_eq_true rfl) dX0_moveOf_84 ?_
      refine x_goto (tgt := 100) E dX0_moveOf_87 (by decide) ?_
      exact x_iretP E hm dX0_moveOf_100
  refine x_split hm (fun hx hm => ?_) (fun hs3 hm => ?_)
  · refine x_tin (kv := (iI 3)) (tgt := 101) E dX0_moveOf_4 hx rfl (by decide) (by decide) rfl (by decide) ?_
    refine x_iload_n E dX0_moveOf_101 rfl 2 rfl ?_
    refine x_aload_n E dX0_moveOf_102 rfl 0 rfl ?_
    refine x_gf (v := .int (rd w g 0 4)) E fr_X0_49 hg rfl dX0_moveOf_103 ?_
    refine x_icmp_ne (tgt := 117) E dX0_moveOf_106 (by decide) hm (fun _ hm => ?_) (fun _ hm => ?_)
    · refine x_iload_n E dX0_moveOf_117 rfl 1 rfl ?_
      refine x_aload_n E dX0_moveOf_118 rfl 0 rfl ?_
      refine x_iload_n E dX0_moveOf_119 rfl 1 rfl ?_
      refine x_iload_n E dX0_moveOf_120 rfl 2 rfl ?_
      obtain ⟨r_6, hc, hm⟩ := ob_inv hm
      refine x_callV (As := [.int a1, .int a2]) (rest := [.int a1]) E my_X0_markOf wG325 (c_X0_markOf l D cs ad hg hc) hg rfl rfl ⟨Nat.le_of_ble_eq_true rfl, Nat.le_of_ble_eq_true rfl⟩ (Nat.le_of_ble_eq_true rfl) dX0_moveOf_121 ?_
      refine x_callS (As := [.int a1, .int r_6]) (rest := []) E my_X0_signMove wG330 (c_X0_signMove l D cs ad rfl) rfl ⟨Nat.le_of_ble_eq_true rfl, Nat.le_of_ble_eq_true rfl⟩ (Nat.le_of_ble_eq_true rfl) dX0_moveOf_124 ?_
      exact x_iretP E hm dX0_moveOf_127
    · refine x_iconst (v := (iI 1)) E dX0_moveOf_109 (by decide) ?_
      refine x_iload_n E dX0_moveOf_110 rfl 1 rfl ?_
      refine x_isub E dX0_moveOf_111 ?_
      refine x_iconst (v := (iI 3)) E dX0_moveOf_112 (by decide) ?_
      refine x_imul E dX0_moveOf_113 ?_
      refine x_goto (tgt := 127) E dX0_moveOf_114 (by decide) ?_
      exact x_iretP E hm dX0_moveOf_127
  refine x_tout (tgt := 128) E dX0_moveOf_4 (by have := lv_neT (a := 0) hs0 rfl; have := lv_neT (a := 1) hs1 rfl; have := lv_neT (a := 2) hs2 rfl; have := lv_neT (a := 3) hs3 rfl; omega) (by decide) ?_
  refine x_iconst (v := (iI (-1))) E dX0_moveOf_128 (by decide) ?_
  exact x_iretP E hm dX0_moveOf_129
set_option maxRecDepth 100000 in
set_option maxHeartbeats 4000000 in
theorem c_X0_load (l : Launch) (D : va_G) (cs : vCs) (ad : Nat → Nat → Nat) {w : Wd} {g : Nat} {a2 : Int32} (hg : kl g = 0) {w' : Wd} (hm : X0_load w g a2 = some w') : Mc l yX0_load cX0_load 6 none 4 88 D cs ad [.ref (ad g 0), .ref (ad 0 1), .int a2] w none w' := by
  refine Mc.of (by decide) (Nat.le_of_ble_eq_true rfl) ?_
  intro p e s m args below meth c E
  replace E : EV p m c cX0_load 6 s args RX0 yX0_load none meth D cs ad := E
  have hL17 : ∀ (fuel : Nat) (k40 : Wd → Option Wd) (hk40 : ∀ (w : Wd), k40 w = some w' → XV p l e { frames := 4, cells := 0, slots := 0, locals := 88 } s m args below meth c 6 D cs ad (MQ below (xQ D cs ad none w') args s 0 0 (xF ad)) 40 [(0, .ref (ad g 0))] [] w) (b3 : Int32) (w : Wd), X0_load_L17 fuel k40 g b3 w = some w' → XV p l e { frames := 4, cells := 0, slots := 0, locals := 88 } s m args below meth c 6 D cs ad (MQ below (xQ D cs ad none w') args s 0 0 (xF ad)) 17 [(0, .ref (ad g 0)), (1, .ref (ad 0 1)), (3, .int b3)] [] w := by
    intro fuel
    induction fuel with
    | zero => intro k40 hk40 b3 w hm; cases hm
    | succ fuel ih =>
      intro k40 hk40 b3 w hm
      rw [X0_load_L17] at hm
      refine x_iload_n E dX0_load_17 rfl 2 rfl ?_
      refine x_aload_n E dX0_load_18 rfl 0 rfl ?_
      refine x_gf (v := .int (rd w g 0 1)) E fr_X0_36 hg rfl dX0_load_19 ?_
      refine x_icmp_ge (tgt := 40) E dX0_load_22 (by decide) hm (fun _ hm => ?_) (fun _ hm => ?_)
      · exact x_weak [0] rfl (hk40 w hm)
      · refine x_aload_n E dX0_load_25 rfl 0 rfl ?_
        refine x_gf (v := .ref (ad g 1)) E fr_X0_9 hg rfl dX0_load_26 ?_
        refine x_iload_n E dX0_load_29 rfl 2 rfl ?_
        refine x_aload_n E dX0_load_30 rfl 1 rfl ?_
        refine x_iload_n E dX0_load_31 rfl 2 rfl ?_
        refine x_iald E rfl rfl (by decide) dX0_load_32 hm (fun x_2 hm => ?_)
        refine x_iast E hg rfl (by decide) dX0_load_33 hm (fun w_3 hm => ?_)
        refine x_iincB (lv' := fun x_4 => [(3, .int x_4), (0, .ref (ad g 0)), (1, .ref (ad 0 1))]) (j := 2) E dX0_load_34 rfl rfl (by decide) (fun _ => rfl) hm (fun x_4 hm => ?_)
        refine x_goto (tgt := 17) E dX0_load_37 (by decide) ?_
        exact x_weak [1, 2, 0] rfl ((ih _ hk40) x_4 w_3 hm)
  have hL113 : ∀ (k87 : Int32 → Int32 → Wd → Option Wd) (hk87 : ∀ (b3 : Int32) (b4 : Int32) (w : Wd), k87 b3 b4 w = some w' → XV p l e { frames := 4, cells := 0, slots := 0, locals := 88 } s m args below meth c 6 D cs ad (MQ below (xQ D cs ad none w') args s 0 0 (xF ad)) 87 [(0, .ref (ad g 0)), (3, .int b3), (4, .int b4)] [] w) (b3 : Int32) (b4 : Int32) (t0 : Int32) (w : Wd), X0_load_L113 k87 g b3 b4 t0 w = some w' → XV p l e { frames := 4, cells := 0, slots := 0, locals := 88 } s m args below meth c 6 D cs ad (MQ below (xQ D cs ad none w') args s 0 0 (xF ad)) 113 [(0, .ref (ad g 0)), (3, .int b3), (4, .int b4)] [.int t0] w := by
    intro k87 hk87 b3 b4 t0 w hm
    unfold X0_load_L113 at hm
    refine x_istore (lv' := [(5, .int t0), (0, .ref (ad g 0)), (3, .int b3), (4, .int b4)]) E dX0_load_113 (by decide) rfl ?_
    refine x_aload_n E dX0_load_115 rfl 1 rfl ?_
    refine x_gf (v := .ref (ad g 2)) E fr_X0_15 hg rfl dX0_load_116 ?_
    refine x_iload_n E dX0_load_119 rfl 2 rfl ?_
    refine x_bipush (v := (iI 8)) E dX0_load_120 (by decide) ?_
    refine x_imul E dX0_load_122 ?_
    refine x_iload E dX0_load_123 3 rfl ?_
    refine x_iadd E dX0_load_125 ?_
    refine x_iload E dX0_load_126 0 rfl ?_
    refine x_iast E hg rfl (by decide) dX0_load_128 hm (fun w_12 hm => ?_)
    refine x_aload_n E dX0_load_129 rfl 1 rfl ?_
    refine x_iload_n E dX0_load_130 rfl 2 rfl ?_
    refine x_iload E dX0_load_131 3 rfl ?_
    refine x_iload E dX0_load_133 0 rfl ?_
    obtain ⟨w_13, hc, hm⟩ := ob_inv hm
    refine x_callV (As := [.int b3, .int b4, .int t0]) (rest := []) E my_X0_layOut wG339 (c_X0_layOut l D cs ad hg hc) hg rfl rfl ⟨Nat.le_of_ble_eq_true rfl, Nat.le_of_ble_eq_true rfl⟩ (Nat.le_of_ble_eq_true rfl) dX0_load_135 ?_
    refine x_iincB (lv' := fun x_14 => [(4, .int x_14), (5, .int t0), (0, .ref (ad g 0)), (3, .int b3)]) (j := 3) E dX0_load_138 rfl rfl (by decide) (fun _ => rfl) hm (fun x_14 hm => ?_)
    refine x_goto (tgt := 87) E dX0_load_141 (by decide) ?_
    exact x_weak [2, 3, 0] rfl (hk87 b3 x_14 w_13 hm)
  have hL87 : ∀ (fuel : Nat) (k144 : Int32 → Wd → Option Wd) (hk144 : ∀ (b3 : Int32) (w : Wd), k144 b3 w = some w' → XV p l e { frames := 4, cells := 0, slots := 0, locals := 88 } s m args below meth c 6 D cs ad (MQ below (xQ D cs ad none w') args s 0 0 (xF ad)) 144 [(0, .ref (ad g 0)), (3, .int b3)] [] w) (b3 : Int32) (b4 : Int32) (w : Wd), X0_load_L87 fuel k144 g b3 b4 w = some w' → XV p l e { frames := 4, cells := 0, slots := 0, locals := 88 } s m args below meth c 6 D cs ad (MQ below (xQ D cs ad none w') args s 0 0 (xF ad)) 87 [(0, .ref (ad g 0)), (3, .int b3), (4, .int b4)] [] w := by
    intro fuel
    induction fuel with
    | zero => intro k144 hk144 b3 b4 w hm; cases hm
    | succ fuel ih =>
      intro k144 hk144 b3 b4 w hm
      rw [X0_load_L87] at hm
      refine x_iload E dX0_load_87 2 rfl ?_
      refine x_bipush (v := (iI 8)) E dX0_load_89 (by decide) ?_
      refine x_icmp_ge (tgt := 144) E dX0_load_91 (by decide) hm (fun _ hm => ?_) (fun _ hm => ?_)
      · exact x_weak [0, 1] rfl (hk144 b3 w hm)
      · refine x_iload_n E dX0_load_94 rfl 1 rfl ?_
        refine x_aload_n E dX0_load_95 rfl 0 rfl ?_
        refine x_gf (v := .int (rd w g 0 3)) E fr_X0_55 hg rfl dX0_load_96 ?_
        refine x_icmp_ge (tgt := 112) E dX0_load_99 (by decide) hm (fun _ hm => ?_) (fun _ hm => ?_)
        · refine x_iconst (v := (iI (-1))) E dX0_load_112 (by decide) ?_
          exact (hL113 _ (ih _ hk144)) b3 b4 (iI (-1)) w hm
        · refine x_aload_n E dX0_load_102 rfl 0 rfl ?_
          refine x_iload_n E dX0_load_103 rfl 1 rfl ?_
          refine x_iload E dX0_load_104 2 rfl ?_
          obtain ⟨r_10, hc, hm⟩ := ob_inv hm
          refine x_callV (As := [.int b3, .int b4]) (rest := []) E my_X0_moveOf wG321 (c_X0_moveOf l D cs ad hg hc) hg rfl rfl ⟨Nat.le_of_ble_eq_true rfl, Nat.le_of_ble_eq_true rfl⟩ (Nat.le_of_ble_eq_true rfl) dX0_load_106 ?_
          refine x_goto (tgt := 113) E dX0_load_109 (by decide) ?_
          exact (hL113 _ (ih _ hk144)) b3 b4 r_10 w hm
  have hL144 : ∀ (k79 : Int32 → Wd → Option Wd) (hk79 : ∀ (b3 : Int32) (w : Wd), k79 b3 w = some w' → XV p l e { frames := 4, cells := 0, slots := 0, locals := 88 } s m args below meth c 6 D cs ad (MQ below (xQ D cs ad none w') args s 0 0 (xF ad)) 79 [(0, .ref (ad g 0)), (3, .int b3)] [] w) (b3 : Int32) (w : Wd), X0_load_L144 k79 g b3 w = some w' → XV p l e { frames := 4, cells := 0, slots := 0, locals := 88 } s m args below meth c 6 D cs ad (MQ below (xQ D cs ad none w') args s 0 0 (xF ad)) 144 [(0, .ref (ad g 0)), (3, .int b3)] [] w := by
    intro k79 hk79 b3 w hm
    unfold X0_load_L144 at hm
    refine x_iincB (lv' := fun x_11 => [(3, .int x_11), (0, .ref (ad g 0))]) (j := 1) E dX0_load_144 rfl rfl (by decide) (fun _ => rfl) hm (fun x_11 hm => ?_)
    refine x_goto (tgt := 79) E dX0_load_147 (by decide) ?_
    exact x_weak [1, 0] rfl (hk79 x_11 w hm)
  have hL79 : ∀ (fuel : Nat) (b3 : Int32) (w : Wd), X0_load_L79 fuel g b3 w = some w' → XV p l e { frames := 4, cells := 0, slots := 0, locals := 88 } s m args below meth c 6 D cs ad (MQ below (xQ D cs ad none w') args s 0 0 (xF ad)) 79 [(0, .ref (ad g 0)), (3, .int b3)] [] w := by
    intro fuel
    induction fuel with
    | zero => intro b3 w hm; cases hm
    | succ fuel ih =>
      intro b3 w hm
      rw [X0_load_L79] at hm
      refine x_iload_n E dX0_load_79 rfl 1 rfl ?_
      refine x_iconst (v := (iI 5)) E dX0_load_80 (by decide) ?_
      refine x_icmp_ge (tgt := 150) E dX0_load_81 (by decide) hm (fun _ hm => ?_) (fun _ hm => ?_)
      · exact x_vretS E hm dX0_load_150
      · refine x_iconst (v := (iI 0)) E dX0_load_84 (by decide) ?_
        refine x_istore (lv' := [(4, .int (iI 0)), (0, .ref (ad g 0)), (3, .int b3)]) E dX0_load_85 (by decide) rfl ?_
        exact x_weak [1, 2, 0] rfl ((hL87 1000 _ (hL144 _ (ih))) b3 (iI 0) w hm)
  have hL40 : ∀ (w : Wd), X0_load_L40 g w = some w' → XV p l e { frames := 4, cells := 0, slots := 0, locals := 88 } s m args below meth c 6 D cs ad (MQ below (xQ D cs ad none w') args s 0 0 (xF ad)) 40 [(0, .ref (ad g 0))] [] w := by
    intro w hm
    unfold X0_load_L40 at hm
    refine x_aload_n E dX0_load_40 rfl 0 rfl ?_
    refine x_aload_n E dX0_load_41 rfl 0 rfl ?_
    refine x_gf (v := .ref (ad g 1)) E fr_X0_9 hg rfl dX0_load_42 ?_
    refine x_iconst (v := (iI 0)) E dX0_load_45 (by decide) ?_
    refine x_iald E hg rfl (by decide) dX0_load_46 hm (fun x_5 hm => ?_)
    refine x_callS (As := [.int x_5]) (rest := [.ref (ad g 0)]) E my_X2_kindOf wG317 (c_X2_kindOf l D cs ad rfl) rfl ⟨Nat.le_of_ble_eq_true rfl, Nat.le_of_ble_eq_true rfl⟩ (Nat.le_of_ble_eq_true rfl) dX0_load_47 ?_
    refine x_pf E fr_X0_46 hg (by decide) rfl rfl dX0_load_50 ?_
    refine x_bW hm (fun w_6 hm => ?_)
    refine x_aload_n E dX0_load_53 rfl 0 rfl ?_
    refine x_aload_n E dX0_load_54 rfl 0 rfl ?_
    refine x_gf (v := .ref (ad g 1)) E fr_X0_9 hg rfl dX0_load_55 ?_
    refine x_iconst (v := (iI 1)) E dX0_load_58 (by decide) ?_
    refine x_iald E hg rfl (by decide) dX0_load_59 hm (fun x_7 hm => ?_)
    refine x_bipush (v := (iI 48)) E dX0_load_60 (by decide) ?_
    refine x_isub E dX0_load_62 ?_
    refine x_pf E fr_X0_49 hg (by decide) rfl rfl dX0_load_63 ?_
    refine x_bW hm (fun w_8 hm => ?_)
    refine x_aload_n E dX0_load_66 rfl 0 rfl ?_
    refine x_aload_n E dX0_load_67 rfl 0 rfl ?_
    refine x_gf (v := .int (rd w_8 g 0 2)) E fr_X0_46 hg rfl dX0_load_68 ?_
    refine x_callS (As := [.int (rd w_8 g 0 2)]) (rest := [.ref (ad g 0)]) E my_X0_modesOf wG318 (c_X0_modesOf l D cs ad rfl) rfl ⟨Nat.le_of_ble_eq_true rfl, Nat.le_of_ble_eq_true rfl⟩ (Nat.le_of_ble_eq_true rfl) dX0_load_71 ?_
    refine x_pf E fr_X0_55 hg (by decide) rfl rfl dX0_load_74 ?_
    refine x_bW hm (fun w_9 hm => ?_)
    refine x_iconst (v := (iI 0)) E dX0_load_77 (by decide) ?_
    refine x_istore_n (lv' := [(3, .int (iI 0)), (0, .ref (ad g 0))]) E dX0_load_78 rfl (by decide) rfl ?_
    exact x_weak [1, 0] rfl ((hL79 1000) (iI 0) w_9 hm)
  unfold X0_load at hm
  refine x_aload_n E dX0_load_0 rfl 0 rfl ?_
  refine x_iload_n E dX0_load_1 rfl 2 rfl ?_
  refine x_aload_n E dX0_load_2 rfl 1 rfl ?_
  refine x_alen (v := (iI 40)) E rfl rfl (by decide) (by decide) dX0_load_3 ?_
  refine x_mmin E wG314 wG315 wG89 wG316 (Nat.le_of_ble_eq_true rfl) (Nat.le_of_ble_eq_true rfl) dX0_load_4 ?_
  refine x_bipush (v := (iI 22)) E dX0_load_7 (by decide) ?_
  refine x_mmin E wG314 wG315 wG89 wG316 (Nat.le_of_ble_eq_true rfl) (Nat.le_of_ble_eq_true rfl) dX0_load_9 ?_
  refine x_pf E fr_X0_36 hg (by decide) rfl rfl dX0_load_12 ?_
  refine x_bW hm (fun w_1 hm => ?_)
  refine x_iconst (v := (iI 0)) E dX0_load_15 (by decide) ?_
  refine x_istore_n (lv' := [(3, .int (iI 0)), (0, .ref (ad g 0)), (1, .ref (ad 0 1)), (2, .int a2)]) E dX0_load_16 rfl (by decide) rfl ?_
  exact x_weak [1, 2, 0] rfl ((hL17 1000 _ (hL40)) (iI 0) w_1 hm)
set_option maxRecDepth 100000 in
set_option maxHeartbeats 4000000 in
theorem c_X0_modeOf (l : Launch) (D : va_G) (cs : vCs) (ad : Nat → Nat → Nat) {w : Wd} {a0 : Int32} {r : Int32} (hm : X0_modeOf a0 = r) : Mc l yX0_modeOf cX0_modeOf 1 (some .int) 0 0 D cs ad [.int a0] w (some (.int r)) w := by
  refine Mc.of (by decide) (Nat.le_of_ble_eq_true rfl) ?_
  intro p e s m args below meth c E
  replace E : EV p m c cX0_modeOf 1 s args RX0 yX0_modeOf (some .int) meth D cs ad := E
  unfold X0_modeOf at hm
  refine x_iload_n E dX0_modeOf_0 rfl 0 rfl ?_
  refine x_iconst (v := (iI 3)) E dX0_modeOf_1 (by decide) ?_
  refine x_idiv E dX0_modeOf_2 (by decide) ?_
  exact x_iretT E hm dX0_modeOf_3
set_option maxRecDepth 100000 in
set_option maxHeartbeats 4000000 in
theorem c_X0_modes (l : Launch) (D : va_G) (cs : vCs) (ad : Nat → Nat → Nat) {w : Wd} {g : Nat} (hg : kl g = 0) {r : Int32} (hm : X0_modes w g = r) : Mc l yX0_modes cX0_modes 1 (some .int) 0 0 D cs ad [.ref (ad g 0)] w (some (.int r)) w := by
  refine Mc.of (by decide) (Nat.le_of_ble_eq_true rfl) ?_
  intro p e s m args below meth c E
  replace E : EV p m c cX0_modes 1 s args RX0 yX0_modes (some .int) meth D cs ad := E
  unfold X0_modes at hm
  refine x_aload_n E dX0_modes_0 rfl 0 rfl ?_
  refine x_gf (v := .int (rd w g 0 3)) E fr_X0_55 hg rfl dX0_modes_1 ?_
  exact x_iretT E hm dX0_modes_4
set_option maxRecDepth 100000 in
set_option maxHeartbeats 4000000 in
theorem c_X0_nextState (l : Launch) (D : va_G) (cs : vCs) (ad : Nat → Nat → Nat) {w : Wd} {g : Nat} {a1 : Int32} {a2 : Int32} (hg : kl g = 0) {r : Int32} (hm : X0_nextState w g a1 a2 = some r) : Mc l yX0_nextState cX0_nextState 3 (some .int) 0 0 D cs ad [.ref (ad g 0), .int a1, .int a2] w (some (.int r)) w := by
  refine Mc.of (by decide) (Nat.le_of_ble_eq_true rfl) ?_
  intro p e s m args below meth c E
  replace E : EV p m c cX0_nextState 3 s args RX0 yX0_nextState (some .int) meth D cs ad := E
  unfold X0_nextState at hm
  refine x_iload_n E dX0_nextState_0 rfl 1 rfl ?_
  refine x_if_lt (tgt := 20) E dX0_nextState_1 (by decide) hm (fun _ hm => ?_) (fun _ hm => ?_)
  · refine x_iconst (v := (iI (-1))) E dX0_nextState_20 (by decide) ?_
    exact x_iretP E hm dX0_nextState_21
  · refine x_iload_n E dX0_nextState_4 rfl 1 rfl ?_
    refine x_bipush (v := (iI 15)) E dX0_nextState_5 (by decide) ?_
    refine x_icmp_ge (tgt := 20) E dX0_nextState_7 (by decide) hm (fun _ hm => ?_) (fun _ hm => ?_)
    · refine x_iconst (v := (iI (-1))) E dX0_nextState_20 (by decide) ?_
      exact x_iretP E hm dX0_nextState_21
    · refine x_iload_n E dX0_nextState_10 rfl 2 rfl ?_
      refine x_if_lt (tgt := 20) E dX0_nextState_11 (by decide) hm (fun _ hm => ?_) (fun _ hm => ?_)
      · refine x_iconst (v := (iI (-1))) E dX0_nextState_20 (by decide) ?_
        exact x_iretP E hm dX0_nextState_21
      · refine x_iload_n E dX0_nextState_14 rfl 2 rfl ?_
        refine x_bipush (v := (iI 8)) E dX0_nextState_15 (by decide) ?_
        refine x_icmp_lt (tgt := 22) E dX0_nextState_17 (by decide) hm (fun _ hm => ?_) (fun _ hm => ?_)
        · refine x_aload_n E dX0_nextState_22 rfl 0 rfl ?_
          refine x_gf (v := .ref (ad g 3)) E fr_X0_18 hg rfl dX0_nextState_23 ?_
          refine x_iload_n E dX0_nextState_26 rfl 1 rfl ?_
          refine x_bipush (v := (iI 8)) E dX0_nextState_27 (by decide) ?_
          refine x_imul E dX0_nextState_29 ?_
          refine x_iload_n E dX0_nextState_30 rfl 2 rfl ?_
          refine x_iadd E dX0_nextState_31 ?_
          refine x_iald E hg rfl (by decide) dX0_nextState_32 hm (fun x_1 hm => ?_)
          exact x_iretP E hm dX0_nextState_33
        · refine x_iconst (v := (iI (-1))) E dX0_nextState_20 (by decide) ?_
          exact x_iretP E hm dX0_nextState_21
set_option maxRecDepth 100000 in
set_option maxHeartbeats 4000000 in
theorem c_X0_sortEnded (l : Launch) (D : va_G) (cs : vCs) (ad : Nat → Nat → Nat) {w : Wd} {g : Nat} {a1 : Int32} {a2 : Int32} (hg : kl g = 0) {r : Int32} (hm : X0_sortEnded w g a1 a2 = some r) : Mc l yX0_sortEnded cX0_sortEnded 4 (some .int) 1 22 D cs ad [.ref (ad g 0), .int a1, .int a2] w (some (.int r)) w := by
  refine Mc.of (by decide) (Nat.le_of_ble_eq_true rfl) ?_
  intro p e s m args below meth c E
  replace E : EV p m c cX0_sortEnded 4 s args RX0 yX0_sortEnded (some .int) meth D cs ad := E
  unfold X0_sortEnded at hm
  refine x_aload_n E dX0_sortEnded_0 rfl 0 rfl ?_
  refine x_iload_n E dX0_sortEnded_1 rfl 1 rfl ?_
  refine x_iload_n E dX0_sortEnded_2 rfl 2 rfl ?_
  obtain ⟨r_1, hc, hm⟩ := ob_inv hm
  refine x_callV (As := [.int a1, .int a2]) (rest := []) E my_X0_moveIn wG374 (c_X0_moveIn l D cs ad hg hc) hg rfl rfl ⟨Nat.le_of_ble_eq_true rfl, Nat.le_of_ble_eq_true rfl⟩ (Nat.le_of_ble_eq_true rfl) dX0_sortEnded_3 ?_
  refine x_istore_n (lv' := [(3, .int r_1), (0, .ref (ad g 0)), (1, .int a1), (2, .int a2)]) E dX0_sortEnded_6 rfl (by decide) rfl ?_
  refine x_iload_n E dX0_sortEnded_7 rfl 0 rfl ?_
  refine x_iconst (v := (iI (-1))) E dX0_sortEnded_8 (by decide) ?_
  refine x_icmp_ne (tgt := 16) E dX0_sortEnded_9 (by decide) hm (fun _ hm => ?_) (fun _ hm => ?_)
  · refine x_iload_n E dX0_sortEnded_16 rfl 0 rfl ?_
    refine x_iconst (v := (iI 3)) E dX0_sortEnded_17 (by decide) ?_
    refine x_irem E dX0_sortEnded_18 (by decide) ?_
    exact x_iretP E hm dX0_sortEnded_19
  · refine x_iconst (v := (iI 0)) E dX0_sortEnded_12 (by decide) ?_
    refine x_goto (tgt := 19) E dX0_sortEnded_13 (by decide) ?_
    exact x_iretP E hm dX0_sortEnded_19
set_option maxRecDepth 100000 in
set_option maxHeartbeats 4000000 in
theorem c_X0_states (l : Launch) (D : va_G) (cs : vCs) (ad : Nat → Nat → Nat) {w : Wd} {g : Nat} (hg : kl g = 0) {r : Int32} (hm : X0_states w g = r) : Mc l yX0_states cX0_states 1 (some .int) 0 0 D cs ad [.ref (ad g 0)] w (some (.int r)) w := by
  refine Mc.of (by decide) (Nat.le_of_ble_eq_true rfl) ?_
  intro p e s m args below meth c E
  replace E : EV p m c cX0_states 1 s args RX0 yX0_states (some .int) meth D cs ad := E
  unfold X0_states at hm
  refine x_aload_n E dX0_states_0 rfl 0 rfl ?_
  refine x_gf (v := .int (rd w g 0 3)) E fr_X0_55 hg rfl dX0_states_1 ?_
  refine x_iconst (v := (iI 3)) E dX0_states_4 (by decide) ?_
  refine x_imul E dX0_states_5 ?_
  exact x_iretT E hm dX0_states_6
set_option maxRecDepth 100000 in
set_option maxHeartbeats 4000000 in
theorem c_X0_textAt (l : Launch) (D : va_G) (cs : vCs) (ad : Nat → Nat → Nat) {w : Wd} {g : Nat} {a1 : Int32} (hg : kl g = 0) {r : Int32} (hm : X0_textAt w g a1 = some r) : Mc l yX0_textAt cX0_textAt 2 (some .int) 0 0 D cs ad [.ref (ad g 0), .int a1] w (some (.int r)) w := by
  refine Mc.of (by decide) (Nat.le_of_ble_eq_true rfl) ?_
  intro p e s m args below meth c E
  replace E : EV p m c cX0_textAt 2 s args RX0 yX0_textAt (some .int) meth D cs ad := E
  unfold X0_textAt at hm
  refine x_iload_n E dX0_textAt_0 rfl 1 rfl ?_
  refine x_if_lt (tgt := 21) E dX0_textAt_1 (by decide) hm (fun _ hm => ?_) (fun _ hm => ?_)
  · refine x_bipush (v := (iI (-101))) E dX0_textAt_21 (by decide) ?_
    exact x_iretP E hm dX0_textAt_23
  · refine x_iload_n E dX0_textAt_4 rfl 1 rfl ?_
    refine x_aload_n E dX0_textAt_5 rfl 0 rfl ?_
    refine x_gf (v := .int (rd w g 0 1)) E fr_X0_36 hg rfl dX0_textAt_6 ?_
    refine x_icmp_ge (tgt := 21) E dX0_textAt_9 (by decide) hm (fun _ hm => ?_) (fun _ hm => ?_)
    · refine x_bipush (v := (iI (-101))) E dX0_textAt_21 (by decide) ?_
      exact x_iretP E hm dX0_textAt_23
    · refine x_aload_n E dX0_textAt_12 rfl 0 rfl ?_
      refine x_gf (v := .ref (ad g 1)) E fr_X0_9 hg rfl dX0_textAt_13 ?_
      refine x_iload_n E dX0_textAt_16 rfl 1 rfl ?_
      refine x_iald E hg rfl (by decide) dX0_textAt_17 hm (fun x_1 hm => ?_)
      refine x_goto (tgt := 23) E dX0_textAt_18 (by decide) ?_
      exact x_iretP E hm dX0_textAt_23
set_option maxRecDepth 100000 in
set_option maxHeartbeats 4000000 in
theorem c_X0_textLength (l : Launch) (D : va_G) (cs : vCs) (ad : Nat → Nat → Nat) {w : Wd} {g : Nat} (hg : kl g = 0) {r : Int32} (hm : X0_textLength w g = r) : Mc l yX0_textLength cX0_textLength 1 (some .int) 0 0 D cs ad [.ref (ad g 0)] w (some (.int r)) w := by
  refine Mc.of (by decide) (Nat.le_of_ble_eq_true rfl) ?_
  intro p e s m args below meth c E
  replace E : EV p m c cX0_textLength 1 s args RX0 yX0_textLength (some .int) meth D cs ad := E
  unfold X0_textLength at hm
  refine x_aload_n E dX0_textLength_0 rfl 0 rfl ?_
  refine x_gf (v := .int (rd w g 0 1)) E fr_X0_36 hg rfl dX0_textLength_1 ?_
  exact x_iretT E hm dX0_textLength_4
set_option maxRecDepth 100000 in
set_option maxHeartbeats 4000000 in
theorem c_X0_validRows (l : Launch) (D : va_G) (cs : vCs) (ad : Nat → Nat → Nat) {w : Wd} {g : Nat} {a1 : Int32} (hg : kl g = 0) {r : Int32} {w' : Wd} (hm : X0_validRows w g a1 = some (r, w')) : Mc l yX0_validRows cX0_validRows 3 (some .int) 3 103 D cs ad [.ref (ad g 0), .int a1] w (some (.int r)) w' := by
  refine Mc.of (by decide) (Nat.le_of_ble_eq_true rfl) ?_
  intro p e s m args below meth c E
  replace E : EV p m c cX0_validRows 3 s args RX0 yX0_validRows (some .int) meth D cs ad := E
  have hL17 : ∀ (fuel : Nat) (b1 : Int32) (b2 : Int32) (w : Wd), X0_validRows_L17 fuel g b1 b2 w = some (r, w') → XV p l e { frames := 3, cells := 0, slots := 0, locals := 103 } s m args below meth c 3 D cs ad (MQ below (xQ D cs ad (some (.int r)) w') args s 0 0 (xF ad)) 17 [(0, .ref (ad g 0)), (1, .int b1), (2, .int b2)] [] w := by
    intro fuel
    induction fuel with
    | zero => intro b1 b2 w hm; cases hm
    | succ fuel ih =>
      intro b1 b2 w hm
      rw [X0_validRows_L17] at hm
      refine x_iload_n E dX0_validRows_17 rfl 2 rfl ?_
      refine x_iload_n E dX0_validRows_18 rfl 1 rfl ?_
      refine x_icmp_ge (tgt := 32) E dX0_validRows_19 (by decide) hm (fun _ hm => ?_) (fun _ hm => ?_)
      · refine x_aload_n E dX0_validRows_32 rfl 0 rfl ?_
        refine x_gf (v := .ref (ad g 5)) E fr_X0_24 hg rfl dX0_validRows_33 ?_
        refine x_iconst (v := (iI 0)) E dX0_validRows_36 (by decide) ?_
        refine x_iald E hg rfl (by decide) dX0_validRows_37 hm (fun x_3 hm => ?_)
        exact x_iretS E hm dX0_validRows_38
      · refine x_aload_n E dX0_validRows_22 rfl 0 rfl ?_
        obtain ⟨w_4, hc, hm⟩ := ob_inv hm
        refine x_callV (As := []) (rest := []) E my_X0_lengthenWays wG578 (c_X0_lengthenWays l D cs ad hg hc) hg rfl rfl ⟨Nat.le_of_ble_eq_true rfl, Nat.le_of_ble_eq_true rfl⟩ (Nat.le_of_ble_eq_true rfl) dX0_validRows_23 ?_
        refine x_iincB (lv' := fun x_5 => [(2, .int x_5), (0, .ref (ad g 0)), (1, .int b1)]) (j := 2) E dX0_validRows_26 rfl rfl (by decide) (fun _ => rfl) hm (fun x_5 hm => ?_)
        refine x_goto (tgt := 17) E dX0_validRows_29 (by decide) ?_
        exact x_weak [1, 2, 0] rfl ((ih) b1 x_5 w_4 hm)
  unfold X0_validRows at hm
  refine x_aload_n E dX0_validRows_0 rfl 0 rfl ?_
  refine x_gf (v := .ref (ad g 5)) E fr_X0_24 hg rfl dX0_validRows_1 ?_
  refine x_iconst (v := (iI 0)) E dX0_validRows_4 (by decide) ?_
  refine x_callS (As := [.ref (ad g 5), .int (iI 0)]) (rest := []) E my_fill wG577 (c_fill l D cs ad hg rfl (by decide) (by decide)) rfl ⟨Nat.le_of_ble_eq_true rfl, Nat.le_of_ble_eq_true rfl⟩ (Nat.le_of_ble_eq_true rfl) dX0_validRows_5 ?_
  refine x_bW hm (fun w_1 hm => ?_)
  refine x_aload_n E dX0_validRows_8 rfl 0 rfl ?_
  refine x_gf (v := .ref (ad g 5)) E fr_X0_24 hg rfl dX0_validRows_9 ?_
  refine x_iconst (v := (iI 0)) E dX0_validRows_12 (by decide) ?_
  refine x_iconst (v := (iI 1)) E dX0_validRows_13 (by decide) ?_
  refine x_iast E hg rfl (by decide) dX0_validRows_14 hm (fun w_2 hm => ?_)
  refine x_iconst (v := (iI 0)) E dX0_validRows_15 (by decide) ?_
  refine x_istore_n (lv' := [(2, .int (iI 0)), (0, .ref (ad g 0)), (1, .int a1)]) E dX0_validRows_16 rfl (by decide) rfl ?_
  exact x_weak [1, 2, 0] rfl ((hL17 1000) a1 (iI 0) w_2 hm)
set_option maxRecDepth 100000 in
set_option maxHeartbeats 4000000 in
theorem c_X1_isBetter (l : Launch) (D : va_G) (cs : vCs) (ad : Nat → Nat → Nat) {w : Wd} {a1 : Int32} {a2 : Int32} {a3 : Int32} {a4 : Int32} {a5 : Int32} {r : Int32} (hm : X1_isBetter w a1 a2 a3 a4 a5 = some r) : Mc l yX1_isBetter cX1_isBetter 6 (some .boolean) 0 0 D cs ad [.ref (ad 11 0), .int a1, .int a2, .int a3, .int a4, .int a5] w (some (.int r)) w := by
  refine Mc.of (by decide) (Nat.le_of_ble_eq_true rfl) ?_
  intro p e s m args below meth c E
  replace E : EV p m c cX1_isBetter 6 s args RX1 yX1_isBetter (some .boolean) meth D cs ad := E
  unfold X1_isBetter at hm
  refine x_aload_n E dX1_isBetter_0 rfl 0 rfl ?_
  refine x_gf (v := .ref (ad 11 2)) E fr_X1_15 rfl rfl dX1_isBetter_1 ?_
  refine x_iload_n E dX1_isBetter_4 rfl 1 rfl ?_
  refine x_iald E rfl rfl (by decide) dX1_isBetter_5 hm (fun x_1 hm => ?_)
  refine x_iconst (v := (iI (-1))) E dX1_isBetter_6 (by decide) ?_
  refine x_icmp_ne (tgt := 12) E dX1_isBetter_7 (by decide) hm (fun _ hm => ?_) (fun _ hm => ?_)
  · refine x_iload_n E dX1_isBetter_12 rfl 2 rfl ?_
    refine x_aload_n E dX1_isBetter_13 rfl 0 rfl ?_
    refine x_gf (v := .ref (ad 11 1)) E fr_X1_9 rfl rfl dX1_isBetter_14 ?_
    refine x_iload_n E dX1_isBetter_17 rfl 1 rfl ?_
    refine x_iald E rfl rfl (by decide) dX1_isBetter_18 hm (fun x_2 hm => ?_)
    refine x_icmp_eq (tgt := 38) E dX1_isBetter_19 (by decide) hm (fun _ hm => ?_) (fun _ hm => ?_)
    · refine x_iload_n E dX1_isBetter_38 rfl 3 rfl ?_
      refine x_aload_n E dX1_isBetter_39 rfl 0 rfl ?_
      refine x_gf (v := .ref (ad 11 2)) E fr_X1_15 rfl rfl dX1_isBetter_40 ?_
      refine x_iload_n E dX1_isBetter_43 rfl 1 rfl ?_
      refine x_iald E rfl rfl (by decide) dX1_isBetter_44 hm (fun x_3 hm => ?_)
      refine x_icmp_eq (tgt := 64) E dX1_isBetter_45 (by decide) hm (fun _ hm => ?_) (fun _ hm => ?_)
      · refine x_iload E dX1_isBetter_64 4 rfl ?_
        refine x_aload_n E dX1_isBetter_66 rfl 0 rfl ?_
        refine x_gf (v := .ref (ad 11 3)) E fr_X1_18 rfl rfl dX1_isBetter_67 ?_
        refine x_iload_n E dX1_isBetter_70 rfl 1 rfl ?_
        refine x_iald E rfl rfl (by decide) dX1_isBetter_71 hm (fun x_4 hm => ?_)
        refine x_icmp_eq (tgt := 94) E dX1_isBetter_72 (by decide) hm (fun _ hm => ?_) (fun _ hm => ?_)
        · refine x_iload E dX1_isBetter_94 5 rfl ?_
          refine x_aload_n E dX1_isBetter_96 rfl 0 rfl ?_
          refine x_gf (v := .ref (ad 11 4)) E fr_X1_21 rfl rfl dX1_isBetter_97 ?_
          refine x_iload_n E dX1_isBetter_100 rfl 1 rfl ?_
          refine x_iald E rfl rfl (by decide) dX1_isBetter_101 hm (fun x_5 hm => ?_)
          refine x_icmp_ge (tgt := 109) E dX1_isBetter_102 (by decide) hm (fun _ hm => ?_) (fun _ hm => ?_)
          · refine x_iconst (v := (iI 0)) E dX1_isBetter_109 (by decide) ?_
            exact x_zretP E rfl hm dX1_isBetter_110
          · refine x_iconst (v := (iI 1)) E dX1_isBetter_105 (by decide) ?_
            refine x_goto (tgt := 110) E dX1_isBetter_106 (by decide) ?_
            exact x_zretP E rfl hm dX1_isBetter_110
        · refine x_iload E dX1_isBetter_75 4 rfl ?_
          refine x_aload_n E dX1_isBetter_77 rfl 0 rfl ?_
          refine x_gf (v := .ref (ad 11 3)) E fr_X1_18 rfl rfl dX1_isBetter_78 ?_
          refine x_iload_n E dX1_isBetter_81 rfl 1 rfl ?_
          refine x_iald E rfl rfl (by decide) dX1_isBetter_82 hm (fun x_6 hm => ?_)
          refine x_icmp_ge (tgt := 90) E dX1_isBetter_83 (by decide) hm (fun _ hm => ?_) (fun _ hm => ?_)
          · refine x_iconst (v := (iI 0)) E dX1_isBetter_90 (by decide) ?_
            refine x_goto (tgt := 110) E dX1_isBetter_91 (by decide) ?_
            exact x_zretP E rfl hm dX1_isBetter_110
          · refine x_iconst (v := (iI 1)) E dX1_isBetter_86 (by decide) ?_
            refine x_goto (tgt := 110) E dX1_isBetter_87 (by decide) ?_
            exact x_zretP E rfl hm dX1_isBetter_110
      · refine x_iload_n E dX1_isBetter_48 rfl 3 rfl ?_
        refine x_aload_n E dX1_isBetter_49 rfl 0 rfl ?_
        refine x_gf (v := .ref (ad 11 2)) E fr_X1_15 rfl rfl dX1_isBetter_50 ?_
        refine x_iload_n E dX1_isBetter_53 rfl 1 rfl ?_
        refine x_iald E rfl rfl (by decide) dX1_isBetter_54 hm (fun x_7 hm => ?_)
        refine x_icmp_ge (tgt := 62) E dX1_isBetter_55 (by decide) hm (fun _ hm => ?_) (fun _ hm => ?_)
        · refine x_iconst (v := (iI 0)) E dX1_isBetter_62 (by decide) ?_
          exact x_zretP E rfl hm dX1_isBetter_63
        · refine x_iconst (v := (iI 1)) E dX1_isBetter_58 (by decide) ?_
          refine x_goto (tgt := 63) E dX1_isBetter_59 (by decide) ?_
          exact x_zretP E rfl hm dX1_isBetter_63
    · refine x_iload_n E dX1_isBetter_22 rfl 2 rfl ?_
      refine x_aload_n E dX1_isBetter_23 rfl 0 rfl ?_
      refine x_gf (v := .ref (ad 11 1)) E fr_X1_9 rfl rfl dX1_isBetter_24 ?_
      refine x_iload_n E dX1_isBetter_27 rfl 1 rfl ?_
      refine x_iald E rfl rfl (by decide) dX1_isBetter_28 hm (fun x_8 hm => ?_)
      refine x_icmp_le (tgt := 36) E dX1_isBetter_29 (by decide) hm (fun _ hm => ?_) (fun _ hm => ?_)
      · refine x_iconst (v := (iI 0)) E dX1_isBetter_36 (by decide) ?_
        exact x_zretP E rfl hm dX1_isBetter_37
      · refine x_iconst (v := (iI 1)) E dX1_isBetter_32 (by decide) ?_
        refine x_goto (tgt := 37) E dX1_isBetter_33 (by decide) ?_
        exact x_zretP E rfl hm dX1_isBetter_37
  · refine x_iconst (v := (iI 1)) E dX1_isBetter_10 (by decide) ?_
    exact x_zretP E rfl hm dX1_isBetter_11
set_option maxRecDepth 100000 in
set_option maxHeartbeats 4000000 in
theorem c_X1_tryPiece (l : Launch) (D : va_G) (cs : vCs) (ad : Nat → Nat → Nat) {w : Wd} {a1 : Int32} {a2 : Int32} {a3 : Int32} {a4 : Int32} {a5 : Int32} {w' : Wd} (hm : X1_tryPiece w a1 a2 a3 a4 a5 = some w') : Mc l yX1_tryPiece cX1_tryPiece 8 none 1 25 D cs ad [.ref (ad 11 0), .int a1, .int a2, .int a3, .int a4, .int a5] w none w' := by
  refine Mc.of (by decide) (Nat.le_of_ble_eq_true rfl) ?_
  intro p e s m args below meth c E
  replace E : EV p m c cX1_tryPiece 8 s args RX1 yX1_tryPiece none meth D cs ad := E
  have hL32 : ∀ (b1 : Int32) (b2 : Int32) (b3 : Int32) (b4 : Int32) (t0 : Int32) (t1 : Int32) (w : Wd), X1_tryPiece_L32 b1 b2 b3 b4 t0 t1 w = some w' → XV p l e { frames := 1, cells := 0, slots := 0, locals := 25 } s m args below meth c 8 D cs ad (MQ below (xQ D cs ad none w') args s 0 0 (xF ad)) 32 [(0, .ref (ad 11 0)), (1, .int b1), (2, .int b2), (3, .int b3), (4, .int b4)] [.int t0, .int t1] w := by
    intro b1 b2 b3 b4 t0 t1 w hm
    unfold X1_tryPiece_L32 at hm
    refine x_iadd E dX1_tryPiece_32 ?_
    refine x_bI hm (fun x_3 hm => ?_)
    refine x_istore (lv' := [(6, .int x_3), (0, .ref (ad 11 0)), (1, .int b1), (2, .int b2), (3, .int b3), (4, .int b4)]) E dX1_tryPiece_33 (by decide) rfl ?_
    refine x_aload_n E dX1_tryPiece_35 rfl 1 rfl ?_
    refine x_gf (v := .ref (ad 11 2)) E fr_X1_15 rfl rfl dX1_tryPiece_36 ?_
    refine x_iload_n E dX1_tryPiece_39 rfl 3 rfl ?_
    refine x_iald E rfl rfl (by decide) dX1_tryPiece_40 hm (fun x_4 hm => ?_)
    refine x_iconst (v := (iI 1)) E dX1_tryPiece_41 (by decide) ?_
    refine x_iadd E dX1_tryPiece_42 ?_
    refine x_bI hm (fun x_5 hm => ?_)
    refine x_istore (lv' := [(7, .int x_5), (6, .int x_3), (0, .ref (ad 11 0)), (1, .int b1), (2, .int b2), (3, .int b3), (4, .int b4)]) E dX1_tryPiece_43 (by decide) rfl ?_
    refine x_aload_n E dX1_tryPiece_45 rfl 2 rfl ?_
    refine x_iload_n E dX1_tryPiece_46 rfl 3 rfl ?_
    refine x_iload E dX1_tryPiece_47 1 rfl ?_
    refine x_iload E dX1_tryPiece_49 0 rfl ?_
    refine x_iload_n E dX1_tryPiece_51 rfl 4 rfl ?_
    refine x_iload_n E dX1_tryPiece_52 rfl 5 rfl ?_
    obtain ⟨r_6, hc, hm⟩ := ob_inv hm
    refine x_callV (As := [.int b1, .int x_3, .int x_5, .int b2, .int b3]) (rest := []) E my_X1_isBetter wG641 (c_X1_isBetter l D cs ad hc) rfl rfl rfl ⟨Nat.le_of_ble_eq_true rfl, Nat.le_of_ble_eq_true rfl⟩ (Nat.le_of_ble_eq_true rfl) dX1_tryPiece_53 ?_
    refine x_if_eq (tgt := 97) E dX1_tryPiece_56 (by decide) hm (fun _ hm => ?_) (fun _ hm => ?_)
    · exact x_vretS E hm dX1_tryPiece_97
    · refine x_aload_n E dX1_tryPiece_59 rfl 2 rfl ?_
      refine x_gf (v := .ref (ad 11 1)) E fr_X1_9 rfl rfl dX1_tryPiece_60 ?_
      refine x_iload_n E dX1_tryPiece_63 rfl 3 rfl ?_
      refine x_iload E dX1_tryPiece_64 1 rfl ?_
      refine x_iast E rfl rfl (by decide) dX1_tryPiece_66 hm (fun w_7 hm => ?_)
      refine x_aload_n E dX1_tryPiece_67 rfl 2 rfl ?_
      refine x_gf (v := .ref (ad 11 2)) E fr_X1_15 rfl rfl dX1_tryPiece_68 ?_
      refine x_iload_n E dX1_tryPiece_71 rfl 3 rfl ?_
      refine x_iload E dX1_tryPiece_72 0 rfl ?_
      refine x_iast E rfl rfl (by decide) dX1_tryPiece_74 hm (fun w_8 hm => ?_)
      refine x_aload_n E dX1_tryPiece_75 rfl 2 rfl ?_
      refine x_gf (v := .ref (ad 11 3)) E fr_X1_18 rfl rfl dX1_tryPiece_76 ?_
      refine x_iload_n E dX1_tryPiece_79 rfl 3 rfl ?_
      refine x_iload_n E dX1_tryPiece_80 rfl 4 rfl ?_
      refine x_iast E rfl rfl (by decide) dX1_tryPiece_81 hm (fun w_9 hm => ?_)
      refine x_aload_n E dX1_tryPiece_82 rfl 2 rfl ?_
      refine x_gf (v := .ref (ad 11 4)) E fr_X1_21 rfl rfl dX1_tryPiece_83 ?_
      refine x_iload_n E dX1_tryPiece_86 rfl 3 rfl ?_
      refine x_iload_n E dX1_tryPiece_87 rfl 5 rfl ?_
      refine x_iast E rfl rfl (by decide) dX1_tryPiece_88 hm (fun w_10 hm => ?_)
      refine x_aload_n E dX1_tryPiece_89 rfl 2 rfl ?_
      refine x_gf (v := .ref (ad 11 5)) E fr_X1_24 rfl rfl dX1_tryPiece_90 ?_
      refine x_iload_n E dX1_tryPiece_93 rfl 3 rfl ?_
      refine x_iload E dX1_tryPiece_94 6 rfl ?_
      refine x_iast E rfl rfl (by decide) dX1_tryPiece_96 hm (fun w_11 hm => ?_)
      exact x_vretS E hm dX1_tryPiece_97
  unfold X1_tryPiece at hm
  refine x_aload_n E dX1_tryPiece_0 rfl 0 rfl ?_
  refine x_gf (v := .ref (ad 11 2)) E fr_X1_15 rfl rfl dX1_tryPiece_1 ?_
  refine x_iload_n E dX1_tryPiece_4 rfl 2 rfl ?_
  refine x_iald E rfl rfl (by decide) dX1_tryPiece_5 hm (fun x_1 hm => ?_)
  refine x_iconst (v := (iI (-1))) E dX1_tryPiece_6 (by decide) ?_
  refine x_icmp_ne (tgt := 11) E dX1_tryPiece_7 (by decide) hm (fun _ hm => ?_) (fun _ hm => ?_)
  · refine x_iload E dX1_tryPiece_11 4 rfl ?_
    refine x_iload_n E dX1_tryPiece_13 rfl 2 rfl ?_
    refine x_iload E dX1_tryPiece_14 5 rfl ?_
    refine x_icmp_ge (tgt := 31) E dX1_tryPiece_16 (by decide) hm (fun _ hm => ?_) (fun _ hm => ?_)
    · refine x_iconst (v := (iI 0)) E dX1_tryPiece_31 (by decide) ?_
      exact x_weak [0, 1, 2, 3, 4] rfl ((hL32) a1 a2 a3 a4 (iI 0) a4 w hm)
    · refine x_aload_n E dX1_tryPiece_19 rfl 0 rfl ?_
      refine x_gf (v := .ref (ad 11 1)) E fr_X1_9 rfl rfl dX1_tryPiece_20 ?_
      refine x_iload_n E dX1_tryPiece_23 rfl 2 rfl ?_
      refine x_iald E rfl rfl (by decide) dX1_tryPiece_24 hm (fun x_2 hm => ?_)
      refine x_bipush (v := (iI 7)) E dX1_tryPiece_25 (by decide) ?_
      refine x_isub E dX1_tryPiece_27 ?_
      refine x_goto (tgt := 32) E dX1_tryPiece_28 (by decide) ?_
      exact x_weak [0, 1, 2, 3, 4] rfl ((hL32) a1 a2 a3 a4 (x_2 - (iI 7)) a4 w hm)
  · exact x_vretS E hm dX1_tryPiece_10
set_option maxRecDepth 100000 in
set_option maxHeartbeats 4000000 in
theorem c_X1_tryPieces (l : Launch) (D : va_G) (cs : vCs) (ad : Nat → Nat → Nat) {w : Wd} {g1 : Nat} {a2 : Int32} {a4 : Int32} {a5 : Int32} (hg1 : kl g1 = 0) {w' : Wd} (hm : X1_tryPieces w g1 a2 a4 a5 = some w') : Mc l yX1_tryPieces cX1_tryPieces 9 none 2 52 D cs ad [.ref (ad 11 0), .ref (ad g1 0), .int a2, .ref (ad 0 2), .int a4, .int a5] w none w' := by
  refine Mc.of (by decide) (Nat.le_of_ble_eq_true rfl) ?_
  intro p e s m args below meth c E
  replace E : EV p m c cX1_tryPieces 9 s args RX1 yX1_tryPieces none meth D cs ad := E
  have hL10 : ∀ (fuel : Nat) (b2 : Int32) (b4 : Int32) (b5 : Int32) (b6 : Int32) (b7 : Int32) (b8 : Int32) (w : Wd), X1_tryPieces_L10 fuel g1 b2 b4 b5 b6 b7 b8 w = some w' → XV p l e { frames := 2, cells := 0, slots := 0, locals := 52 } s m args below meth c 9 D cs ad (MQ below (xQ D cs ad none w') args s 0 0 (xF ad)) 10 [(0, .ref (ad 11 0)), (1, .ref (ad g1 0)), (2, .int b2), (3, .ref (ad 0 2)), (4, .int b4), (5, .int b5), (6, .int b6), (7, .int b7), (8, .int b8)] [] w := by
    intro fuel
    induction fuel with
    | zero => intro b2 b4 b5 b6 b7 b8 w hm; cases hm
    | succ fuel ih =>
      intro b2 b4 b5 b6 b7 b8 w hm
      rw [X1_tryPieces_L10] at hm
      refine x_iload E dX1_tryPieces_10 8 rfl ?_
      refine x_iload E dX1_tryPieces_12 5 rfl ?_
      refine x_icmp_ge (tgt := 85) E dX1_tryPieces_14 (by decide) hm (fun _ hm => ?_) (fun _ hm => ?_)
      · exact x_vretS E hm dX1_tryPieces_85
      · refine x_iload E dX1_tryPieces_17 6 rfl ?_
        refine x_iconst (v := (iI (-1))) E dX1_tryPieces_19 (by decide) ?_
        refine x_icmp_eq (tgt := 85) E dX1_tryPieces_20 (by decide) hm (fun _ hm => ?_) (fun _ hm => ?_)
        · exact x_vretS E hm dX1_tryPieces_85
        · refine x_iload E dX1_tryPieces_23 7 rfl ?_
          refine x_aload_n E dX1_tryPieces_25 rfl 1 rfl ?_
          refine x_iload E dX1_tryPieces_26 6 rfl ?_
          refine x_aload_n E dX1_tryPieces_28 rfl 3 rfl ?_
          refine x_iload E dX1_tryPieces_29 8 rfl ?_
          refine x_iald E rfl rfl (by decide) dX1_tryPieces_31 hm (fun x_1 hm => ?_)
          obtain ⟨r_2, hc, hm⟩ := ob_inv hm
          refine x_callV (As := [.int b6, .int x_1]) (rest := [.int b7]) E my_X0_gain wG634 (c_X0_gain l D cs ad hg1 hc) hg1 rfl rfl ⟨Nat.le_of_ble_eq_true rfl, Nat.le_of_ble_eq_true rfl⟩ (Nat.le_of_ble_eq_true rfl) dX1_tryPieces_32 ?_
          refine x_iadd E dX1_tryPieces_35 ?_
          refine x_bI hm (fun x_3 hm => ?_)
          refine x_istore (lv' := [(7, .int x_3), (0, .ref (ad 11 0)), (1, .ref (ad g1 0)), (2, .int b2), (3, .ref (ad 0 2)), (4, .int b4), (5, .int b5), (6, .int b6), (8, .int b8)]) E dX1_tryPieces_36 (by decide) rfl ?_
          refine x_aload_n E dX1_tryPieces_38 rfl 2 rfl ?_
          refine x_iload E dX1_tryPieces_39 7 rfl ?_
          refine x_aload_n E dX1_tryPieces_41 rfl 4 rfl ?_
          refine x_iload E dX1_tryPieces_42 8 rfl ?_
          refine x_iald E rfl rfl (by decide) dX1_tryPieces_44 hm (fun x_4 hm => ?_)
          obtain ⟨r_5, hc, hm⟩ := ob_inv hm
          refine x_callV (As := [.int b6, .int x_4]) (rest := []) E my_X0_nextState wG635 (c_X0_nextState l D cs ad hg1 hc) hg1 rfl rfl ⟨Nat.le_of_ble_eq_true rfl, Nat.le_of_ble_eq_true rfl⟩ (Nat.le_of_ble_eq_true rfl) dX1_tryPieces_45 ?_
          refine x_istore (lv' := [(6, .int r_5), (7, .int x_3), (0, .ref (ad 11 0)), (1, .ref (ad g1 0)), (2, .int b2), (3, .ref (ad 0 2)), (4, .int b4), (5, .int b5), (8, .int b8)]) E dX1_tryPieces_48 (by decide) rfl ?_
          refine x_iload E dX1_tryPieces_50 0 rfl ?_
          refine x_iconst (v := (iI (-1))) E dX1_tryPieces_52 (by decide) ?_
          refine x_icmp_eq (tgt := 79) E dX1_tryPieces_53 (by decide) hm (fun _ hm => ?_) (fun _ hm => ?_)
          · refine x_iincB (lv' := fun x_6 => [(8, .int x_6), (6, .int r_5), (7, .int x_3), (0, .ref (ad 11 0)), (1, .ref (ad g1 0)), (2, .int b2), (3, .ref (ad 0 2)), (4, .int b4), (5, .int b5)]) (j := 8) E dX1_tryPieces_79 rfl rfl (by decide) (fun _ => rfl) hm (fun x_6 hm => ?_)
            refine x_goto (tgt := 10) E dX1_tryPieces_82 (by decide) ?_
            exact x_weak [3, 4, 5, 6, 7, 8, 1, 2, 0] rfl ((ih) b2 b4 b5 r_5 x_3 x_6 w hm)
          · refine x_iload E dX1_tryPieces_56 0 rfl ?_
            refine x_callS (As := [.int r_5]) (rest := []) E my_X0_modeOf wG636 (c_X0_modeOf l D cs ad rfl) rfl ⟨Nat.le_of_ble_eq_true rfl, Nat.le_of_ble_eq_true rfl⟩ (Nat.le_of_ble_eq_true rfl) dX1_tryPieces_58 ?_
            refine x_if_ne (tgt := 79) E dX1_tryPieces_61 (by decide) hm (fun _ hm => ?_) (fun _ hm => ?_)
            · refine x_iincB (lv' := fun x_7 => [(8, .int x_7), (6, .int r_5), (7, .int x_3), (0, .ref (ad 11 0)), (1, .ref (ad g1 0)), (2, .int b2), (3, .ref (ad 0 2)), (4, .int b4), (5, .int b5)]) (j := 8) E dX1_tryPieces_79 rfl rfl (by decide) (fun _ => rfl) hm (fun x_7 hm => ?_)
              refine x_goto (tgt := 10) E dX1_tryPieces_82 (by decide) ?_
              exact x_weak [3, 4, 5, 6, 7, 8, 1, 2, 0] rfl ((ih) b2 b4 b5 r_5 x_3 x_7 w hm)
            · refine x_aload_n E dX1_tryPieces_64 rfl 2 rfl ?_
              refine x_iload E dX1_tryPieces_65 6 rfl ?_
              refine x_iload E dX1_tryPieces_67 8 rfl ?_
              refine x_iconst (v := (iI 1)) E dX1_tryPieces_69 (by decide) ?_
              refine x_iadd E dX1_tryPieces_70 ?_
              refine x_iload_n E dX1_tryPieces_71 rfl 4 rfl ?_
              refine x_iload E dX1_tryPieces_72 1 rfl ?_
              refine x_iload E dX1_tryPieces_74 7 rfl ?_
              obtain ⟨w_8, hc, hm⟩ := ob_inv hm
              refine x_callV (As := [.int b4, .int (b8 + (iI 1)), .int b2, .int x_3, .int b5]) (rest := []) E my_X1_tryPiece wG637 (c_X1_tryPiece l D cs ad hc) rfl rfl rfl ⟨Nat.le_of_ble_eq_true rfl, Nat.le_of_ble_eq_true rfl⟩ (Nat.le_of_ble_eq_true rfl) dX1_tryPieces_76 ?_
              refine x_iincB (lv' := fun x_9 => [(8, .int x_9), (6, .int r_5), (7, .int x_3), (0, .ref (ad 11 0)), (1, .ref (ad g1 0)), (2, .int b2), (3, .ref (ad 0 2)), (4, .int b4), (5, .int b5)]) (j := 8) E dX1_tryPieces_79 rfl rfl (by decide) (fun _ => rfl) hm (fun x_9 hm => ?_)
              refine x_goto (tgt := 10) E dX1_tryPieces_82 (by decide) ?_
              exact x_weak [3, 4, 5, 6, 7, 8, 1, 2, 0] rfl ((ih) b2 b4 b5 r_5 x_3 x_9 w_8 hm)
  unfold X1_tryPieces at hm
  refine x_iconst (v := (iI 0)) E dX1_tryPieces_0 (by decide) ?_
  refine x_istore (lv' := [(6, .int (iI 0)), (0, .ref (ad 11 0)), (1, .ref (ad g1 0)), (2, .int a2), (3, .ref (ad 0 2)), (4, .int a4), (5, .int a5)]) E dX1_tryPieces_1 (by decide) rfl ?_
  refine x_iconst (v := (iI 0)) E dX1_tryPieces_3 (by decide) ?_
  refine x_istore (lv' := [(7, .int (iI 0)), (6, .int (iI 0)), (0, .ref (ad 11 0)), (1, .ref (ad g1 0)), (2, .int a2), (3, .ref (ad 0 2)), (4, .int a4), (5, .int a5)]) E dX1_tryPieces_4 (by decide) rfl ?_
  refine x_iload E dX1_tryPieces_6 6 rfl ?_
  refine x_istore (lv' := [(8, .int a4), (7, .int (iI 0)), (6, .int (iI 0)), (0, .ref (ad 11 0)), (1, .ref (ad g1 0)), (2, .int a2), (3, .ref (ad 0 2)), (4, .int a4), (5, .int a5)]) E dX1_tryPieces_8 (by decide) rfl ?_
  exact x_weak [3, 4, 5, 6, 7, 8, 2, 1, 0] rfl ((hL10 1000) a2 a4 a5 (iI 0) (iI 0) a4 w hm)
set_option maxRecDepth 100000 in
set_option maxHeartbeats 4000000 in
theorem c_X1_divide (l : Launch) (D : va_G) (cs : vCs) (ad : Nat → Nat → Nat) {w : Wd} {a2 : Int32} {a4 : Int32} {r : Int32} {w' : Wd} (hm : X1_divide w a2 a4 = some (r, w')) : Mc l yX1_divide cX1_divide 8 (some .boolean) 3 80 D cs ad [.ref (ad 11 0), .ref (ad 0 3), .int a2, .ref (ad 0 2), .int a4] w (some (.int r)) w' := by
  refine Mc.of (by decide) (Nat.le_of_ble_eq_true rfl) ?_
  intro p e s m args below meth c E
  replace E : EV p m c cX1_divide 8 s args RX1 yX1_divide (some .boolean) meth D cs ad := E
  have hL52 : ∀ (fuel : Nat) (k86 : Int32 → Int32 → Int32 → Wd → Option (Int32 × Wd)) (hk86 : ∀ (b2 : Int32) (b5 : Int32) (b6 : Int32) (w : Wd), k86 b2 b5 b6 w = some (r, w') → XV p l e { frames := 3, cells := 0, slots := 0, locals := 80 } s m args below meth c 8 D cs ad (MQ below (xQ D cs ad (some (.int r)) w') args s 0 0 (xF ad)) 86 [(0, .ref (ad 11 0)), (1, .ref (ad 0 3)), (2, .int b2), (3, .ref (ad 0 2)), (5, .int b5), (6, .int b6)] [] w) (b2 : Int32) (b5 : Int32) (b6 : Int32) (b7 : Int32) (w : Wd), X1_divide_L52 fuel k86 b2 b5 b6 b7 w = some (r, w') → XV p l e { frames := 3, cells := 0, slots := 0, locals := 80 } s m args below meth c 8 D cs ad (MQ below (xQ D cs ad (some (.int r)) w') args s 0 0 (xF ad)) 52 [(0, .ref (ad 11 0)), (1, .ref (ad 0 3)), (2, .int b2), (3, .ref (ad 0 2)), (5, .int b5), (6, .int b6), (7, .int b7)] [] w := by
    intro fuel
    induction fuel with
    | zero => intro k86 hk86 b2 b5 b6 b7 w hm; cases hm
    | succ fuel ih =>
      intro k86 hk86 b2 b5 b6 b7 w hm
      rw [X1_divide_L52] at hm
      refine x_iload E dX1_divide_52 6 rfl ?_
      refine x_iload_n E dX1_divide_54 rfl 2 rfl ?_
      refine x_icmp_ge (tgt := 86) E dX1_divide_55 (by decide) hm (fun _ hm => ?_) (fun _ hm => ?_)
      · exact x_weak [0, 1, 2, 3, 4, 5] rfl (hk86 b2 b5 b6 w hm)
      · refine x_iload E dX1_divide_58 6 rfl ?_
        refine x_aload_n E dX1_divide_60 rfl 1 rfl ?_
        refine x_alenC (v := (iI 4)) E (by decide) dX1_divide_61 ?_
        refine x_icmp_ge (tgt := 86) E dX1_divide_62 (by decide) hm (fun _ hm => ?_) (fun _ hm => ?_)
        · exact x_weak [0, 1, 2, 3, 4, 5] rfl (hk86 b2 b5 b6 w hm)
        · refine x_aload_n E dX1_divide_65 rfl 0 rfl ?_
          refine x_aload_n E dX1_divide_66 rfl 1 rfl ?_
          refine x_iload E dX1_divide_67 6 rfl ?_
          refine x_aaldC E dX1_divide_69 hm (fun n_6 hn_6 hm => ?_)
          refine x_iload E dX1_divide_70 6 rfl ?_
          refine x_aload_n E dX1_divide_72 rfl 3 rfl ?_
          refine x_iload E dX1_divide_73 5 rfl ?_
          refine x_iload E dX1_divide_75 4 rfl ?_
          obtain ⟨w_7, hc, hm⟩ := ob_inv hm
          refine x_callV (As := [.ref (ad (n_6 + 1) 0), .int b7, .ref (ad 0 2), .int b6, .int b5]) (rest := []) E my_X1_tryPieces wG630 (c_X1_tryPieces l D cs ad hn_6 hc) rfl rfl rfl ⟨Nat.le_of_ble_eq_true rfl, Nat.le_of_ble_eq_true rfl⟩ (Nat.le_of_ble_eq_true rfl) dX1_divide_77 ?_
          refine x_iincB (lv' := fun x_8 => [(7, .int x_8), (0, .ref (ad 11 0)), (1, .ref (ad 0 3)), (2, .int b2), (3, .ref (ad 0 2)), (5, .int b5), (6, .int b6)]) (j := 6) E dX1_divide_80 rfl rfl (by decide) (fun _ => rfl) hm (fun x_8 hm => ?_)
          refine x_goto (tgt := 52) E dX1_divide_83 (by decide) ?_
          exact x_weak [1, 2, 3, 4, 5, 6, 0] rfl ((ih _ hk86) b2 b5 b6 x_8 w_7 hm)
  have hL86 : ∀ (k36 : Int32 → Int32 → Int32 → Wd → Option (Int32 × Wd)) (hk36 : ∀ (b2 : Int32) (b5 : Int32) (b6 : Int32) (w : Wd), k36 b2 b5 b6 w = some (r, w') → XV p l e { frames := 3, cells := 0, slots := 0, locals := 80 } s m args below meth c 8 D cs ad (MQ below (xQ D cs ad (some (.int r)) w') args s 0 0 (xF ad)) 36 [(0, .ref (ad 11 0)), (1, .ref (ad 0 3)), (2, .int b2), (3, .ref (ad 0 2)), (5, .int b5), (6, .int b6)] [] w) (b2 : Int32) (b5 : Int32) (b6 : Int32) (w : Wd), X1_divide_L86 k36 b2 b5 b6 w = some (r, w') → XV p l e { frames := 3, cells := 0, slots := 0, locals := 80 } s m args below meth c 8 D cs ad (MQ below (xQ D cs ad (some (.int r)) w') args s 0 0 (xF ad)) 86 [(0, .ref (ad 11 0)), (1, .ref (ad 0 3)), (2, .int b2), (3, .ref (ad 0 2)), (5, .int b5), (6, .int b6)] [] w := by
    intro k36 hk36 b2 b5 b6 w hm
    unfold X1_divide_L86 at hm
    refine x_iincB (lv' := fun x_10 => [(6, .int x_10), (0, .ref (ad 11 0)), (1, .ref (ad 0 3)), (2, .int b2), (3, .ref (ad 0 2)), (5, .int b5)]) (j := 5) E dX1_divide_86 rfl rfl (by decide) (fun _ => rfl) hm (fun x_10 hm => ?_)
    refine x_goto (tgt := 36) E dX1_divide_89 (by decide) ?_
    exact x_weak [1, 2, 3, 4, 5, 0] rfl (hk36 b2 b5 x_10 w hm)
  have hL36 : ∀ (fuel : Nat) (k92 : Wd → Option (Int32 × Wd)) (hk92 : ∀ (w : Wd), k92 w = some (r, w') → XV p l e { frames := 3, cells := 0, slots := 0, locals := 80 } s m args below meth c 8 D cs ad (MQ below (xQ D cs ad (some (.int r)) w') args s 0 0 (xF ad)) 92 [(0, .ref (ad 11 0))] [] w) (b2 : Int32) (b5 : Int32) (b6 : Int32) (w : Wd), X1_divide_L36 fuel k92 b2 b5 b6 w = some (r, w') → XV p l e { frames := 3, cells := 0, slots := 0, locals := 80 } s m args below meth c 8 D cs ad (MQ below (xQ D cs ad (some (.int r)) w') args s 0 0 (xF ad)) 36 [(0, .ref (ad 11 0)), (1, .ref (ad 0 3)), (2, .int b2), (3, .ref (ad 0 2)), (5, .int b5), (6, .int b6)] [] w := by
    intro fuel
    induction fuel with
    | zero => intro k92 hk92 b2 b5 b6 w hm; cases hm
    | succ fuel ih =>
      intro k92 hk92 b2 b5 b6 w hm
      rw [X1_divide_L36] at hm
      refine x_iload E dX1_divide_36 5 rfl ?_
      refine x_if_lt (tgt := 92) E dX1_divide_38 (by decide) hm (fun _ hm => ?_) (fun _ hm => ?_)
      · exact x_weak [0] rfl (hk92 w hm)
      · refine x_aload_n E dX1_divide_41 rfl 0 rfl ?_
        refine x_gf (v := .ref (ad 11 2)) E fr_X1_15 rfl rfl dX1_divide_42 ?_
        refine x_iload E dX1_divide_45 5 rfl ?_
        refine x_iconst (v := (iI (-1))) E dX1_divide_47 (by decide) ?_
        refine x_iast E rfl rfl (by decide) dX1_divide_48 hm (fun w_5 hm => ?_)
        refine x_iconst (v := (iI 0)) E dX1_divide_49 (by decide) ?_
        refine x_istore (lv' := [(7, .int (iI 0)), (0, .ref (ad 11 0)), (1, .ref (ad 0 3)), (2, .int b2), (3, .ref (ad 0 2)), (5, .int b5), (6, .int b6)]) E dX1_divide_50 (by decide) rfl ?_
        exact x_weak [1, 2, 3, 4, 5, 6, 0] rfl ((hL52 1000 _ (hL86 _ (ih _ hk92))) b2 b5 b6 (iI 0) w_5 hm)
  have hL92 : ∀ (w : Wd), X1_divide_L92 w = some (r, w') → XV p l e { frames := 3, cells := 0, slots := 0, locals := 80 } s m args below meth c 8 D cs ad (MQ below (xQ D cs ad (some (.int r)) w') args s 0 0 (xF ad)) 92 [(0, .ref (ad 11 0))] [] w := by
    intro w hm
    unfold X1_divide_L92 at hm
    refine x_aload_n E dX1_divide_92 rfl 0 rfl ?_
    refine x_gf (v := .ref (ad 11 2)) E fr_X1_15 rfl rfl dX1_divide_93 ?_
    refine x_iconst (v := (iI 0)) E dX1_divide_96 (by decide) ?_
    refine x_iald E rfl rfl (by decide) dX1_divide_97 hm (fun x_9 hm => ?_)
    refine x_iconst (v := (iI (-1))) E dX1_divide_98 (by decide) ?_
    refine x_icmp_eq (tgt := 106) E dX1_divide_99 (by decide) hm (fun _ hm => ?_) (fun _ hm => ?_)
    · refine x_iconst (v := (iI 0)) E dX1_divide_106 (by decide) ?_
      exact x_zretS E rfl hm dX1_divide_107
    · refine x_iconst (v := (iI 1)) E dX1_divide_102 (by decide) ?_
      refine x_goto (tgt := 107) E dX1_divide_103 (by decide) ?_
      exact x_zretS E rfl hm dX1_divide_107
  unfold X1_divide at hm
  refine x_iload E dX1_divide_0 4 rfl ?_
  refine x_aload_n E dX1_divide_2 rfl 3 rfl ?_
  refine x_alen (v := (iI 40)) E rfl rfl (by decide) (by decide) dX1_divide_3 ?_
  refine x_mmin E wG629 wG315 wG89 wG316 (Nat.le_of_ble_eq_true rfl) (Nat.le_of_ble_eq_true rfl) dX1_divide_4 ?_
  refine x_bipush (v := (iI 40)) E dX1_divide_7 (by decide) ?_
  refine x_mmin E wG629 wG315 wG89 wG316 (Nat.le_of_ble_eq_true rfl) (Nat.le_of_ble_eq_true rfl) dX1_divide_9 ?_
  refine x_bI hm (fun x_1 hm => ?_)
  refine x_istore (lv' := [(5, .int x_1), (0, .ref (ad 11 0)), (1, .ref (ad 0 3)), (2, .int a2), (3, .ref (ad 0 2)), (4, .int a4)]) E dX1_divide_12 (by decide) rfl ?_
  refine x_aload_n E dX1_divide_14 rfl 1 rfl ?_
  refine x_gf (v := .ref (ad 11 1)) E fr_X1_9 rfl rfl dX1_divide_15 ?_
  refine x_iload E dX1_divide_18 0 rfl ?_
  refine x_iconst (v := (iI 0)) E dX1_divide_20 (by decide) ?_
  refine x_iast E rfl rfl (by decide) dX1_divide_21 hm (fun w_2 hm => ?_)
  refine x_aload_n E dX1_divide_22 rfl 1 rfl ?_
  refine x_gf (v := .ref (ad 11 2)) E fr_X1_15 rfl rfl dX1_divide_23 ?_
  refine x_iload E dX1_divide_26 0 rfl ?_
  refine x_iconst (v := (iI 0)) E dX1_divide_28 (by decide) ?_
  refine x_iast E rfl rfl (by decide) dX1_divide_29 hm (fun w_3 hm => ?_)
  refine x_iload E dX1_divide_30 0 rfl ?_
  refine x_iconst (v := (iI 1)) E dX1_divide_32 (by decide) ?_
  refine x_isub E dX1_divide_33 ?_
  refine x_bI hm (fun x_4 hm => ?_)
  refine x_istore (lv' := [(6, .int x_4), (5, .int x_1), (0, .ref (ad 11 0)), (1, .ref (ad 0 3)), (2, .int a2), (3, .ref (ad 0 2)), (4, .int a4)]) E dX1_divide_34 (by decide) rfl ?_
  exact x_weak [2, 3, 4, 5, 1, 0] rfl ((hL36 1000 _ (hL92)) a2 x_1 x_4 w_3 hm)
set_option maxRecDepth 100000 in
set_option maxHeartbeats 4000000 in
theorem c_X1_pieceCount (l : Launch) (D : va_G) (cs : vCs) (ad : Nat → Nat → Nat) {w : Wd} {r : Int32} (hm : X1_pieceCount w = some r) : Mc l yX1_pieceCount cX1_pieceCount 1 (some .int) 0 0 D cs ad [.ref (ad 11 0)] w (some (.int r)) w := by
  refine Mc.of (by decide) (Nat.le_of_ble_eq_true rfl) ?_
  intro p e s m args below meth c E
  replace E : EV p m c cX1_pieceCount 1 s args RX1 yX1_pieceCount (some .int) meth D cs ad := E
  unfold X1_pieceCount at hm
  refine x_aload_n E dX1_pieceCount_0 rfl 0 rfl ?_
  refine x_gf (v := .ref (ad 11 2)) E fr_X1_15 rfl rfl dX1_pieceCount_1 ?_
  refine x_iconst (v := (iI 0)) E dX1_pieceCount_4 (by decide) ?_
  refine x_iald E rfl rfl (by decide) dX1_pieceCount_5 hm (fun x_1 hm => ?_)
  exact x_iretP E hm dX1_pieceCount_6
set_option maxRecDepth 100000 in
set_option maxHeartbeats 4000000 in
theorem c_X1_propertyOf (l : Launch) (D : va_G) (cs : vCs) (ad : Nat → Nat → Nat) {w : Wd} {a1 : Int32} {a2 : Int32} {r : Int32} (hm : X1_propertyOf w a1 a2 = some r) : Mc l yX1_propertyOf cX1_propertyOf 5 (some .int) 0 0 D cs ad [.ref (ad 11 0), .int a1, .int a2] w (some (.int r)) w := by
  refine Mc.of (by decide) (Nat.le_of_ble_eq_true rfl) ?_
  intro p e s m args below meth c E
  replace E : EV p m c cX1_propertyOf 5 s args RX1 yX1_propertyOf (some .int) meth D cs ad := E
  have hL5 : ∀ (fuel : Nat) (k30 : Int32 → Int32 → Wd → Option Int32) (hk30 : ∀ (b2 : Int32) (b3 : Int32) (w : Wd), k30 b2 b3 w = some r → XV p l e { frames := 0, cells := 0, slots := 0, locals := 0 } s m args below meth c 5 D cs ad (MQ below (xQ D cs ad (some (.int r)) w) args s 0 0 (xF ad)) 30 [(0, .ref (ad 11 0)), (2, .int b2), (3, .int b3)] [] w) (b1 : Int32) (b2 : Int32) (b3 : Int32) (b4 : Int32) (w : Wd), X1_propertyOf_L5 fuel k30 b1 b2 b3 b4 w = some r → XV p l e { frames := 0, cells := 0, slots := 0, locals := 0 } s m args below meth c 5 D cs ad (MQ below (xQ D cs ad (some (.int r)) w) args s 0 0 (xF ad)) 5 [(0, .ref (ad 11 0)), (1, .int b1), (2, .int b2), (3, .int b3), (4, .int b4)] [] w := by
    intro fuel
    induction fuel with
    | zero => intro k30 hk30 b1 b2 b3 b4 w hm; cases hm
    | succ fuel ih =>
      intro k30 hk30 b1 b2 b3 b4 w hm
      rw [X1_propertyOf_L5] at hm
      refine x_iload E dX1_propertyOf_5 4 rfl ?_
      refine x_iload_n E dX1_propertyOf_7 rfl 1 rfl ?_
      refine x_icmp_ge (tgt := 30) E dX1_propertyOf_8 (by decide) hm (fun _ hm => ?_) (fun _ hm => ?_)
      · exact x_weak [0, 2, 3] rfl (hk30 b2 b3 w hm)
      · refine x_iload_n E dX1_propertyOf_11 rfl 3 rfl ?_
        refine x_bipush (v := (iI 40)) E dX1_propertyOf_12 (by decide) ?_
        refine x_icmp_ge (tgt := 30) E dX1_propertyOf_14 (by decide) hm (fun _ hm => ?_) (fun _ hm => ?_)
        · exact x_weak [0, 2, 3] rfl (hk30 b2 b3 w hm)
        · refine x_aload_n E dX1_propertyOf_17 rfl 0 rfl ?_
          refine x_gf (v := .ref (ad 11 3)) E fr_X1_18 rfl rfl dX1_propertyOf_18 ?_
          refine x_iload_n E dX1_propertyOf_21 rfl 3 rfl ?_
          refine x_iald E rfl rfl (by decide) dX1_propertyOf_22 hm (fun x_1 hm => ?_)
          refine x_istore_n (lv' := [(3, .int x_1), (0, .ref (ad 11 0)), (1, .int b1), (2, .int b2), (4, .int b4)]) E dX1_propertyOf_23 rfl (by decide) rfl ?_
          refine x_iincB (lv' := fun x_2 => [(4, .int x_2), (3, .int x_1), (0, .ref (ad 11 0)), (1, .int b1), (2, .int b2)]) (j := 4) E dX1_propertyOf_24 rfl rfl (by decide) (fun _ => rfl) hm (fun x_2 hm => ?_)
          refine x_goto (tgt := 5) E dX1_propertyOf_27 (by decide) ?_
          exact x_weak [2, 3, 4, 1, 0] rfl ((ih _ hk30) b1 b2 x_1 x_2 w hm)
  have hL30 : ∀ (b2 : Int32) (b3 : Int32) (w : Wd), X1_propertyOf_L30 b2 b3 w = some r → XV p l e { frames := 0, cells := 0, slots := 0, locals := 0 } s m args below meth c 5 D cs ad (MQ below (xQ D cs ad (some (.int r)) w) args s 0 0 (xF ad)) 30 [(0, .ref (ad 11 0)), (2, .int b2), (3, .int b3)] [] w := by
    intro b2 b3 w hm
    unfold X1_propertyOf_L30 at hm
    refine x_iload_n E dX1_propertyOf_30 rfl 1 rfl ?_
    refine x_split hm (fun hx hm => ?_) (fun hs0 hm => ?_)
    · refine x_lsw (off := 25) (tgt := 56) E dX1_propertyOf_31 (by decide) (by rw [hx] <;> decide) (by decide) ?_
      refine x_aload_n E dX1_propertyOf_56 rfl 0 rfl ?_
      refine x_gf (v := .ref (ad 11 3)) E fr_X1_18 rfl rfl dX1_propertyOf_57 ?_
      refine x_iload_n E dX1_propertyOf_60 rfl 2 rfl ?_
      refine x_iald E rfl rfl (by decide) dX1_propertyOf_61 hm (fun x_3 hm => ?_)
      exact x_iretP E hm dX1_propertyOf_62
    refine x_split hm (fun hx hm => ?_) (fun hs1 hm => ?_)
    · refine x_lsw (off := 32) (tgt := 63) E dX1_propertyOf_31 (by decide) (by rw [hx] <;> decide) (by decide) ?_
      refine x_aload_n E dX1_propertyOf_63 rfl 0 rfl ?_
      refine x_gf (v := .ref (ad 11 4)) E fr_X1_21 rfl rfl dX1_propertyOf_64 ?_
      refine x_iload_n E dX1_propertyOf_67 rfl 2 rfl ?_
      refine x_iald E rfl rfl (by decide) dX1_propertyOf_68 hm (fun x_4 hm => ?_)
      exact x_iretP E hm dX1_propertyOf_69
    refine x_lsw (off := 39) (tgt := 70) E dX1_propertyOf_31 (by decide) ((lv_osw hs0 rfl).trans ((lv_osw hs1 rfl).trans rfl)) (by decide) ?_
    refine x_aload_n E dX1_propertyOf_70 rfl 0 rfl ?_
    refine x_gf (v := .ref (ad 11 5)) E fr_X1_24 rfl rfl dX1_propertyOf_71 ?_
    refine x_iload_n E dX1_propertyOf_74 rfl 2 rfl ?_
    refine x_iald E rfl rfl (by decide) dX1_propertyOf_75 hm (fun x_5 hm => ?_)
    exact x_iretP E hm dX1_propertyOf_76
  unfold X1_propertyOf at hm
  refine x_iconst (v := (iI 0)) E dX1_propertyOf_0 (by decide) ?_
  refine x_istore_n (lv' := [(3, .int (iI 0)), (0, .ref (ad 11 0)), (1, .int a1), (2, .int a2)]) E dX1_propertyOf_1 rfl (by decide) rfl ?_
  refine x_iconst (v := (iI 0)) E dX1_propertyOf_2 (by decide) ?_
  refine x_istore (lv' := [(4, .int (iI 0)), (3, .int (iI 0)), (0, .ref (ad 11 0)), (1, .int a1), (2, .int a2)]) E dX1_propertyOf_3 (by decide) rfl ?_
  exact x_weak [2, 3, 4, 1, 0] rfl ((hL5 1000 _ (hL30)) a1 a2 (iI 0) (iI 0) w hm)
set_option maxRecDepth 100000 in
set_option maxHeartbeats 4000000 in
theorem c_X1_worth (l : Launch) (D : va_G) (cs : vCs) (ad : Nat → Nat → Nat) {w : Wd} {r : Int32} (hm : X1_worth w = some r) : Mc l yX1_worth cX1_worth 1 (some .int) 0 0 D cs ad [.ref (ad 11 0)] w (some (.int r)) w := by
  refine Mc.of (by decide) (Nat.le_of_ble_eq_true rfl) ?_
  intro p e s m args below meth c E
  replace E : EV p m c cX1_worth 1 s args RX1 yX1_worth (some .int) meth D cs ad := E
  unfold X1_worth at hm
  refine x_aload_n E dX1_worth_0 rfl 0 rfl ?_
  refine x_gf (v := .ref (ad 11 1)) E fr_X1_9 rfl rfl dX1_worth_1 ?_
  refine x_iconst (v := (iI 0)) E dX1_worth_4 (by decide) ?_
  refine x_iald E rfl rfl (by decide) dX1_worth_5 hm (fun x_1 hm => ?_)
  exact x_iretP E hm dX1_worth_6

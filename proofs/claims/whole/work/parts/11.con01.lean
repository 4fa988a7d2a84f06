set_option maxRecDepth 100000 in
set_option maxHeartbeats 4000000 in
theorem c_X2_isMark (l : Launch) (D : va_G) (cs : vCs) (ad : Nat → Nat → Nat) {w : Wd} {a0 : Int32} {a1 : Int32} {r : Int32} (hm : X2_isMark a0 a1 = r) : Mc l yX2_isMark cX2_isMark 2 (some .boolean) 0 0 D cs ad [.int a0, .int a1] w (some (.int r)) w := by
  refine Mc.of (by decide) (Nat.le_of_ble_eq_true rfl) ?_
  intro p e s m args below meth c E
  replace E : EV p m c cX2_isMark 2 s args RX2 yX2_isMark (some .boolean) meth D cs ad := E
  unfold X2_isMark at hm
  refine x_iload_n E dX2_isMark_0 rfl 1 rfl ?_
  refine x_bipush (v := (iI 97)) E dX2_isMark_1 (by decide) ?_
  refine x_icmp_eq (tgt := 18) E dX2_isMark_3 (by decide) hm (fun _ hm => ?_) (fun _ hm => ?_)
  · refine x_iconst (v := (iI 1)) E dX2_isMark_18 (by decide) ?_
    exact x_zretT E rfl hm dX2_isMark_19
  · refine x_iload_n E dX2_isMark_6 rfl 1 rfl ?_
    refine x_bipush (v := (iI 98)) E dX2_isMark_7 (by decide) ?_
    refine x_icmp_eq (tgt := 18) E dX2_isMark_9 (by decide) hm (fun _ hm => ?_) (fun _ hm => ?_)
    · refine x_iconst (v := (iI 1)) E dX2_isMark_18 (by decide) ?_
      exact x_zretT E rfl hm dX2_isMark_19
    · refine x_iload_n E dX2_isMark_12 rfl 1 rfl ?_
      refine x_bipush (v := (iI 33)) E dX2_isMark_13 (by decide) ?_
      refine x_icmp_ne (tgt := 20) E dX2_isMark_15 (by decide) hm (fun _ hm => ?_) (fun _ hm => ?_)
      · refine x_iload_n E dX2_isMark_20 rfl 0 rfl ?_
        refine x_iconst (v := (iI 2)) E dX2_isMark_21 (by decide) ?_
        refine x_icmp_ne (tgt := 47) E dX2_isMark_22 (by decide) hm (fun _ hm => ?_) (fun _ hm => ?_)
        · refine x_iconst (v := (iI 0)) E dX2_isMark_47 (by decide) ?_
          exact x_zretT E rfl hm dX2_isMark_48
        · refine x_iload_n E dX2_isMark_25 rfl 1 rfl ?_
          refine x_bipush (v := (iI 43)) E dX2_isMark_26 (by decide) ?_
          refine x_icmp_eq (tgt := 43) E dX2_isMark_28 (by decide) hm (fun _ hm => ?_) (fun _ hm => ?_)
          · refine x_iconst (v := (iI 1)) E dX2_isMark_43 (by decide) ?_
            refine x_goto (tgt := 48) E dX2_isMark_44 (by decide) ?_
            exact x_zretT E rfl hm dX2_isMark_48
          · refine x_iload_n E dX2_isMark_31 rfl 1 rfl ?_
            refine x_bipush (v := (iI 99)) E dX2_isMark_32 (by decide) ?_
            refine x_icmp_lt (tgt := 47) E dX2_isMark_34 (by decide) hm (fun _ hm => ?_) (fun _ hm => ?_)
            · refine x_iconst (v := (iI 0)) E dX2_isMark_47 (by decide) ?_
              exact x_zretT E rfl hm dX2_isMark_48
            · refine x_iload_n E dX2_isMark_37 rfl 1 rfl ?_
              refine x_bipush (v := (iI 102)) E dX2_isMark_38 (by decide) ?_
              refine x_icmp_gt (tgt := 47) E dX2_isMark_40 (by decide) hm (fun _ hm => ?_) (fun _ hm => ?_)
              · refine x_iconst (v := (iI 0)) E dX2_isMark_47 (by decide) ?_
                exact x_zretT E rfl hm dX2_isMark_48
              · refine x_iconst (v := (iI 1)) E dX2_isMark_43 (by decide) ?_
                refine x_goto (tgt := 48) E dX2_isMark_44 (by decide) ?_
                exact x_zretT E rfl hm dX2_isMark_48
      · refine x_iconst (v := (iI 1)) E dX2_isMark_18 (by decide) ?_
        exact x_zretT E rfl hm dX2_isMark_19
set_option maxRecDepth 100000 in
set_option maxHeartbeats 4000000 in
theorem c_X2_textLength (l : Launch) (D : va_G) (cs : vCs) (ad : Nat → Nat → Nat) {w : Wd} {a0 : Int32} {r : Int32} (hm : X2_textLength a0 = r) : Mc l yX2_textLength cX2_textLength 1 (some .int) 2 40 D cs ad [.int a0] w (some (.int r)) w := by
  refine Mc.of (by decide) (Nat.le_of_ble_eq_true rfl) ?_
  intro p e s m args below meth c E
  replace E : EV p m c cX2_textLength 1 s args RX2 yX2_textLength (some .int) meth D cs ad := E
  unfold X2_textLength at hm
  refine x_iload_n E dX2_textLength_0 rfl 0 rfl ?_
  refine x_callS (As := [.int a0]) (rest := []) E my_X2_pointsBegin wG293 (c_X2_pointsBegin l D cs ad rfl) rfl ⟨Nat.le_of_ble_eq_true rfl, Nat.le_of_ble_eq_true rfl⟩ (Nat.le_of_ble_eq_true rfl) dX2_textLength_1 ?_
  refine x_iconst (v := (iI 4)) E dX2_textLength_4 (by decide) ?_
  refine x_iadd E dX2_textLength_5 ?_
  exact x_iretT E hm dX2_textLength_6
set_option maxRecDepth 100000 in
set_option maxHeartbeats 4000000 in
theorem c_X2_fits (l : Launch) (D : va_G) (cs : vCs) (ad : Nat → Nat → Nat) {w : Wd} {a0 : Int32} {a1 : Int32} {a2 : Int32} {r : Int32} (hm : X2_fits a0 a1 a2 = r) : Mc l yX2_fits cX2_fits 3 (some .boolean) 3 60 D cs ad [.int a0, .int a1, .int a2] w (some (.int r)) w := by
  refine Mc.of (by decide) (Nat.le_of_ble_eq_true rfl) ?_
  intro p e s m args below meth c E
  replace E : EV p m c cX2_fits 3 s args RX2 yX2_fits (some .boolean) meth D cs ad := E
  unfold X2_fits at hm
  refine x_iload_n E dX2_fits_0 rfl 1 rfl ?_
  refine x_iload_n E dX2_fits_1 rfl 0 rfl ?_
  refine x_callS (As := [.int a0]) (rest := [.int a1]) E my_X2_marksBegin wG290 (c_X2_marksBegin l D cs ad rfl) rfl ⟨Nat.le_of_ble_eq_true rfl, Nat.le_of_ble_eq_true rfl⟩ (Nat.le_of_ble_eq_true rfl) dX2_fits_2 ?_
  refine x_icmp_ge (tgt := 36) E dX2_fits_5 (by decide) hm (fun _ hm => ?_) (fun _ hm => ?_)
  · refine x_iload_n E dX2_fits_36 rfl 1 rfl ?_
    refine x_iload_n E dX2_fits_37 rfl 0 rfl ?_
    refine x_callS (As := [.int a0]) (rest := [.int a1]) E my_X2_pointsBegin wG293 (c_X2_pointsBegin l D cs ad rfl) rfl ⟨Nat.le_of_ble_eq_true rfl, Nat.le_of_ble_eq_true rfl⟩ (Nat.le_of_ble_eq_true rfl) dX2_fits_38 ?_
    refine x_icmp_ge (tgt := 50) E dX2_fits_41 (by decide) hm (fun _ hm => ?_) (fun _ hm => ?_)
    · refine x_iload_n E dX2_fits_50 rfl 1 rfl ?_
      refine x_iload_n E dX2_fits_51 rfl 0 rfl ?_
      refine x_callS (As := [.int a0]) (rest := [.int a1]) E my_X2_textLength wG299 (c_X2_textLength l D cs ad rfl) rfl ⟨Nat.le_of_ble_eq_true rfl, Nat.le_of_ble_eq_true rfl⟩ (Nat.le_of_ble_eq_true rfl) dX2_fits_52 ?_
      refine x_icmp_ge (tgt := 74) E dX2_fits_55 (by decide) hm (fun _ hm => ?_) (fun _ hm => ?_)
      · refine x_iconst (v := (iI 0)) E dX2_fits_74 (by decide) ?_
        exact x_zretT E rfl hm dX2_fits_75
      · refine x_iload_n E dX2_fits_58 rfl 2 rfl ?_
        refine x_bipush (v := (iI 48)) E dX2_fits_59 (by decide) ?_
        refine x_icmp_lt (tgt := 74) E dX2_fits_61 (by decide) hm (fun _ hm => ?_) (fun _ hm => ?_)
        · refine x_iconst (v := (iI 0)) E dX2_fits_74 (by decide) ?_
          exact x_zretT E rfl hm dX2_fits_75
        · refine x_iload_n E dX2_fits_64 rfl 2 rfl ?_
          refine x_bipush (v := (iI 57)) E dX2_fits_65 (by decide) ?_
          refine x_icmp_gt (tgt := 74) E dX2_fits_67 (by decide) hm (fun _ hm => ?_) (fun _ hm => ?_)
          · refine x_iconst (v := (iI 0)) E dX2_fits_74 (by decide) ?_
            exact x_zretT E rfl hm dX2_fits_75
          · refine x_iconst (v := (iI 1)) E dX2_fits_70 (by decide) ?_
            refine x_goto (tgt := 75) E dX2_fits_71 (by decide) ?_
            exact x_zretT E rfl hm dX2_fits_75
    · refine x_iload_n E dX2_fits_44 rfl 0 rfl ?_
      refine x_iload_n E dX2_fits_45 rfl 2 rfl ?_
      refine x_callS (As := [.int a0, .int a2]) (rest := []) E my_X2_isMark wG296 (c_X2_isMark l D cs ad rfl) rfl ⟨Nat.le_of_ble_eq_true rfl, Nat.le_of_ble_eq_true rfl⟩ (Nat.le_of_ble_eq_true rfl) dX2_fits_46 ?_
      exact x_zretT E (isB_nar (b_X2_isMark _ _)) hm dX2_fits_49
  · refine x_iload_n E dX2_fits_8 rfl 2 rfl ?_
    refine x_iload_n E dX2_fits_9 rfl 0 rfl ?_
    refine x_iconst (v := (iI 1)) E dX2_fits_10 (by decide) ?_
    refine x_icmp_ne (tgt := 19) E dX2_fits_11 (by decide) hm (fun _ hm => ?_) (fun _ hm => ?_)
    · refine x_bipush (v := (iI 48)) E dX2_fits_19 (by decide) ?_
      refine x_icmp_lt (tgt := 34) E dX2_fits_21 (by decide) hm (fun _ hm => ?_) (fun _ hm => ?_)
      · refine x_iconst (v := (iI 0)) E dX2_fits_34 (by decide) ?_
        exact x_zretT E rfl hm dX2_fits_35
      · refine x_iload_n E dX2_fits_24 rfl 2 rfl ?_
        refine x_bipush (v := (iI 55)) E dX2_fits_25 (by decide) ?_
        refine x_icmp_gt (tgt := 34) E dX2_fits_27 (by decide) hm (fun _ hm => ?_) (fun _ hm => ?_)
        · refine x_iconst (v := (iI 0)) E dX2_fits_34 (by decide) ?_
          exact x_zretT E rfl hm dX2_fits_35
        · refine x_iconst (v := (iI 1)) E dX2_fits_30 (by decide) ?_
          refine x_goto (tgt := 35) E dX2_fits_31 (by decide) ?_
          exact x_zretT E rfl hm dX2_fits_35
    · refine x_bipush (v := (iI 49)) E dX2_fits_14 (by decide) ?_
      refine x_goto (tgt := 21) E dX2_fits_16 (by decide) ?_
      refine x_icmp_lt (tgt := 34) E dX2_fits_21 (by decide) hm (fun _ hm => ?_) (fun _ hm => ?_)
      · refine x_iconst (v := (iI 0)) E dX2_fits_34 (by decide) ?_
        exact x_zretT E rfl hm dX2_fits_35
      · refine x_iload_n E dX2_fits_24 rfl 2 rfl ?_
        refine x_bipush (v := (iI 55)) E dX2_fits_25 (by decide) ?_
        refine x_icmp_gt (tgt := 34) E dX2_fits_27 (by decide) hm (fun _ hm => ?_) (fun _ hm => ?_)
        · refine x_iconst (v := (iI 0)) E dX2_fits_34 (by decide) ?_
          exact x_zretT E rfl hm dX2_fits_35
        · refine x_iconst (v := (iI 1)) E dX2_fits_30 (by decide) ?_
          refine x_goto (tgt := 35) E dX2_fits_31 (by decide) ?_
          exact x_zretT E rfl hm dX2_fits_35
set_option maxRecDepth 100000 in
set_option maxHeartbeats 4000000 in
theorem c_X2_firstFault (l : Launch) (D : va_G) (cs : vCs) (ad : Nat → Nat → Nat) {w : Wd} {a1 : Int32} {r : Int32} (hm : X2_firstFault w a1 = some r) : Mc l yX2_firstFault cX2_firstFault 4 (some .int) 4 82 D cs ad [.ref (ad 0 1), .int a1] w (some (.int r)) w := by
  refine Mc.of (by decide) (Nat.le_of_ble_eq_true rfl) ?_
  intro p e s m args below meth c E
  replace E : EV p m c cX2_firstFault 4 s args RX2 yX2_firstFault (some .int) meth D cs ad := E
  have hL28 : ∀ (fuel : Nat) (b1 : Int32) (b2 : Int32) (b3 : Int32) (w : Wd), X2_firstFault_L28 fuel b1 b2 b3 w = some r → XV p l e { frames := 4, cells := 0, slots := 0, locals := 82 } s m args below meth c 4 D cs ad (MQ below (xQ D cs ad (some (.int r)) w) args s 0 0 (xF ad)) 28 [(0, .ref (ad 0 1)), (1, .int b1), (2, .int b2), (3, .int b3)] [] w := by
    intro fuel
    induction fuel with
    | zero => intro b1 b2 b3 w hm; cases hm
    | succ fuel ih =>
      intro b1 b2 b3 w hm
      rw [X2_firstFault_L28] at hm
      refine x_iload_n E dX2_firstFault_28 rfl 3 rfl ?_
      refine x_iload_n E dX2_firstFault_29 rfl 1 rfl ?_
      refine x_icmp_ge (tgt := 52) E dX2_firstFault_30 (by decide) hm (fun _ hm => ?_) (fun _ hm => ?_)
      · refine x_iload_n E dX2_firstFault_52 rfl 1 rfl ?_
        exact x_iretP E hm dX2_firstFault_53
      · refine x_iload_n E dX2_firstFault_33 rfl 2 rfl ?_
        refine x_iload_n E dX2_firstFault_34 rfl 3 rfl ?_
        refine x_aload_n E dX2_firstFault_35 rfl 0 rfl ?_
        refine x_iload_n E dX2_firstFault_36 rfl 3 rfl ?_
        refine x_iald E rfl rfl (by decide) dX2_firstFault_37 hm (fun x_3 hm => ?_)
        refine x_callS (As := [.int b2, .int b3, .int x_3]) (rest := []) E my_X2_fits wG287 (c_X2_fits l D cs ad rfl) rfl ⟨Nat.le_of_ble_eq_true rfl, Nat.le_of_ble_eq_true rfl⟩ (Nat.le_of_ble_eq_true rfl) dX2_firstFault_38 ?_
        refine x_if_ne (tgt := 46) E dX2_firstFault_41 (by decide) hm (fun _ hm => ?_) (fun _ hm => ?_)
        · refine x_iincB (lv' := fun x_4 => [(3, .int x_4), (0, .ref (ad 0 1)), (1, .int b1), (2, .int b2)]) (j := 3) E dX2_firstFault_46 rfl rfl (by decide) (fun _ => rfl) hm (fun x_4 hm => ?_)
          refine x_goto (tgt := 28) E dX2_firstFault_49 (by decide) ?_
          exact x_weak [1, 2, 3, 0] rfl ((ih) b1 b2 x_4 w hm)
        · refine x_iload_n E dX2_firstFault_44 rfl 3 rfl ?_
          exact x_iretP E hm dX2_firstFault_45
  unfold X2_firstFault at hm
  refine x_iload_n E dX2_firstFault_0 rfl 1 rfl ?_
  refine x_if_le (tgt := 10) E dX2_firstFault_1 (by decide) hm (fun _ hm => ?_) (fun _ hm => ?_)
  · refine x_iconst (v := (iI 0)) E dX2_firstFault_10 (by decide) ?_
    exact x_iretP E hm dX2_firstFault_11
  · refine x_aload_n E dX2_firstFault_4 rfl 0 rfl ?_
    refine x_alen (v := (iI 40)) E rfl rfl (by decide) (by decide) dX2_firstFault_5 ?_
    refine x_iload_n E dX2_firstFault_6 rfl 1 rfl ?_
    refine x_icmp_ge (tgt := 12) E dX2_firstFault_7 (by decide) hm (fun _ hm => ?_) (fun _ hm => ?_)
    · refine x_aload_n E dX2_firstFault_12 rfl 0 rfl ?_
      refine x_iconst (v := (iI 0)) E dX2_firstFault_13 (by decide) ?_
      refine x_iald E rfl rfl (by decide) dX2_firstFault_14 hm (fun x_1 hm => ?_)
      refine x_callS (As := [.int x_1]) (rest := []) E my_X2_kindOf wG284 (c_X2_kindOf l D cs ad rfl) rfl ⟨Nat.le_of_ble_eq_true rfl, Nat.le_of_ble_eq_true rfl⟩ (Nat.le_of_ble_eq_true rfl) dX2_firstFault_15 ?_
      refine x_bI hm (fun x_2 hm => ?_)
      refine x_istore_n (lv' := [(2, .int x_2), (0, .ref (ad 0 1)), (1, .int a1)]) E dX2_firstFault_18 rfl (by decide) rfl ?_
      refine x_iload_n E dX2_firstFault_19 rfl 0 rfl ?_
      refine x_iconst (v := (iI (-1))) E dX2_firstFault_20 (by decide) ?_
      refine x_icmp_ne (tgt := 26) E dX2_firstFault_21 (by decide) hm (fun _ hm => ?_) (fun _ hm => ?_)
      · refine x_iconst (v := (iI 1)) E dX2_firstFault_26 (by decide) ?_
        refine x_istore_n (lv' := [(3, .int (iI 1)), (2, .int x_2), (0, .ref (ad 0 1)), (1, .int a1)]) E dX2_firstFault_27 rfl (by decide) rfl ?_
        exact x_weak [2, 3, 1, 0] rfl ((hL28 1000) a1 x_2 (iI 1) w hm)
      · refine x_iconst (v := (iI 0)) E dX2_firstFault_24 (by decide) ?_
        exact x_iretP E hm dX2_firstFault_25
    · refine x_iconst (v := (iI 0)) E dX2_firstFault_10 (by decide) ?_
      exact x_iretP E hm dX2_firstFault_11
set_option maxRecDepth 100000 in
set_option maxHeartbeats 4000000 in
theorem c_X2_isWhole (l : Launch) (D : va_G) (cs : vCs) (ad : Nat → Nat → Nat) {w : Wd} {a1 : Int32} {r : Int32} (hm : X2_isWhole w a1 = some r) : Mc l yX2_isWhole cX2_isWhole 3 (some .boolean) 5 105 D cs ad [.ref (ad 0 1), .int a1] w (some (.int r)) w := by
  refine Mc.of (by decide) (Nat.le_of_ble_eq_true rfl) ?_
  intro p e s m args below meth c E
  replace E : EV p m c cX2_isWhole 3 s args RX2 yX2_isWhole (some .boolean) meth D cs ad := E
  unfold X2_isWhole at hm
  refine x_iload_n E dX2_isWhole_0 rfl 1 rfl ?_
  refine x_if_le (tgt := 10) E dX2_isWhole_1 (by decide) hm (fun _ hm => ?_) (fun _ hm => ?_)
  · refine x_iconst (v := (iI 0)) E dX2_isWhole_10 (by decide) ?_
    exact x_zretP E rfl hm dX2_isWhole_11
  · refine x_aload_n E dX2_isWhole_4 rfl 0 rfl ?_
    refine x_alen (v := (iI 40)) E rfl rfl (by decide) (by decide) dX2_isWhole_5 ?_
    refine x_iload_n E dX2_isWhole_6 rfl 1 rfl ?_
    refine x_icmp_ge (tgt := 12) E dX2_isWhole_7 (by decide) hm (fun _ hm => ?_) (fun _ hm => ?_)
    · refine x_aload_n E dX2_isWhole_12 rfl 0 rfl ?_
      refine x_iconst (v := (iI 0)) E dX2_isWhole_13 (by decide) ?_
      refine x_iald E rfl rfl (by decide) dX2_isWhole_14 hm (fun x_1 hm => ?_)
      refine x_callS (As := [.int x_1]) (rest := []) E my_X2_kindOf wG284 (c_X2_kindOf l D cs ad rfl) rfl ⟨Nat.le_of_ble_eq_true rfl, Nat.le_of_ble_eq_true rfl⟩ (Nat.le_of_ble_eq_true rfl) dX2_isWhole_15 ?_
      refine x_bI hm (fun x_2 hm => ?_)
      refine x_istore_n (lv' := [(2, .int x_2), (0, .ref (ad 0 1)), (1, .int a1)]) E dX2_isWhole_18 rfl (by decide) rfl ?_
      refine x_iload_n E dX2_isWhole_19 rfl 0 rfl ?_
      refine x_iconst (v := (iI (-1))) E dX2_isWhole_20 (by decide) ?_
      refine x_icmp_eq (tgt := 45) E dX2_isWhole_21 (by decide) hm (fun _ hm => ?_) (fun _ hm => ?_)
      · refine x_iconst (v := (iI 0)) E dX2_isWhole_45 (by decide) ?_
        exact x_zretP E rfl hm dX2_isWhole_46
      · refine x_iload_n E dX2_isWhole_24 rfl 2 rfl ?_
        refine x_iload_n E dX2_isWhole_25 rfl 0 rfl ?_
        refine x_callS (As := [.int x_2]) (rest := [.int a1]) E my_X2_textLength wG299 (c_X2_textLength l D cs ad rfl) rfl ⟨Nat.le_of_ble_eq_true rfl, Nat.le_of_ble_eq_true rfl⟩ (Nat.le_of_ble_eq_true rfl) dX2_isWhole_26 ?_
        refine x_icmp_ne (tgt := 45) E dX2_isWhole_29 (by decide) hm (fun _ hm => ?_) (fun _ hm => ?_)
        · refine x_iconst (v := (iI 0)) E dX2_isWhole_45 (by decide) ?_
          exact x_zretP E rfl hm dX2_isWhole_46
        · refine x_aload_n E dX2_isWhole_32 rfl 1 rfl ?_
          refine x_iload_n E dX2_isWhole_33 rfl 2 rfl ?_
          obtain ⟨r_3, hc, hm⟩ := ob_inv hm
          refine x_callS (As := [.ref (ad 0 1), .int a1]) (rest := []) E my_X2_firstFault wG309 (c_X2_firstFault l D cs ad hc) rfl ⟨Nat.le_of_ble_eq_true rfl, Nat.le_of_ble_eq_true rfl⟩ (Nat.le_of_ble_eq_true rfl) dX2_isWhole_34 ?_
          refine x_iload_n E dX2_isWhole_37 rfl 2 rfl ?_
          refine x_icmp_ne (tgt := 45) E dX2_isWhole_38 (by decide) hm (fun _ hm => ?_) (fun _ hm => ?_)
          · refine x_iconst (v := (iI 0)) E dX2_isWhole_45 (by decide) ?_
            exact x_zretP E rfl hm dX2_isWhole_46
          · refine x_iconst (v := (iI 1)) E dX2_isWhole_41 (by decide) ?_
            refine x_goto (tgt := 46) E dX2_isWhole_42 (by decide) ?_
            exact x_zretP E rfl hm dX2_isWhole_46
    · refine x_iconst (v := (iI 0)) E dX2_isWhole_10 (by decide) ?_
      exact x_zretP E rfl hm dX2_isWhole_11
set_option maxRecDepth 100000 in
set_option maxHeartbeats 4000000 in
theorem c_X3_beginAtEnd (l : Launch) (D : va_G) (cs : vCs) (ad : Nat → Nat → Nat) {w : Wd} {w' : Wd} (hm : X3_beginAtEnd w = some w') : Mc l yX3_beginAtEnd cX3_beginAtEnd 3 none 1 80 D cs ad [.ref (ad 9 0)] w none w' := by
  refine Mc.of (by decide) (Nat.le_of_ble_eq_true rfl) ?_
  intro p e s m args below meth c E
  replace E : EV p m c cX3_beginAtEnd 3 s args RX3 yX3_beginAtEnd none meth D cs ad := E
  have hL18 : ∀ (fuel : Nat) (k41 : Int32 → Wd → Option Wd) (hk41 : ∀ (b1 : Int32) (w : Wd), k41 b1 w = some w' → XV p l e { frames := 1, cells := 0, slots := 0, locals := 80 } s m args below meth c 3 D cs ad (MQ below (xQ D cs ad none w') args s 0 0 (xF ad)) 41 [(0, .ref (ad 9 0)), (1, .int b1)] [] w) (b1 : Int32) (b2 : Int32) (w : Wd), X3_beginAtEnd_L18 fuel k41 b1 b2 w = some w' → XV p l e { frames := 1, cells := 0, slots := 0, locals := 80 } s m args below meth c 3 D cs ad (MQ below (xQ D cs ad none w') args s 0 0 (xF ad)) 18 [(0, .ref (ad 9 0)), (1, .int b1), (2, .int b2)] [] w := by
    intro fuel
    induction fuel with
    | zero => intro k41 hk41 b1 b2 w hm; cases hm
    | succ fuel ih =>
      intro k41 hk41 b1 b2 w hm
      rw [X3_beginAtEnd_L18] at hm
      refine x_iload_n E dX3_beginAtEnd_18 rfl 2 rfl ?_
      refine x_iconst (v := (iI 3)) E dX3_beginAtEnd_19 (by decide) ?_
      refine x_icmp_ge (tgt := 41) E dX3_beginAtEnd_20 (by decide) hm (fun _ hm => ?_) (fun _ hm => ?_)
      · exact x_weak [0, 1] rfl (hk41 b1 w hm)
      · refine x_aload_n E dX3_beginAtEnd_23 rfl 0 rfl ?_
        refine x_gf (v := .ref (ad 9 1)) E fr_X3_9 rfl rfl dX3_beginAtEnd_24 ?_
        refine x_iload_n E dX3_beginAtEnd_27 rfl 1 rfl ?_
        refine x_bipush (v := (iI 15)) E dX3_beginAtEnd_28 (by decide) ?_
        refine x_imul E dX3_beginAtEnd_30 ?_
        refine x_iload_n E dX3_beginAtEnd_31 rfl 2 rfl ?_
        refine x_iadd E dX3_beginAtEnd_32 ?_
        refine x_iconst (v := (iI 0)) E dX3_beginAtEnd_33 (by decide) ?_
        refine x_iast E rfl rfl (by decide) dX3_beginAtEnd_34 hm (fun w_2 hm => ?_)
        refine x_iincB (lv' := fun x_3 => [(2, .int x_3), (0, .ref (ad 9 0)), (1, .int b1)]) (j := 2) E dX3_beginAtEnd_35 rfl rfl (by decide) (fun _ => rfl) hm (fun x_3 hm => ?_)
        refine x_goto (tgt := 18) E dX3_beginAtEnd_38 (by decide) ?_
        exact x_weak [1, 2, 0] rfl ((ih _ hk41) b1 x_3 w_2 hm)
  have hL41 : ∀ (k11 : Int32 → Wd → Option Wd) (hk11 : ∀ (b1 : Int32) (w : Wd), k11 b1 w = some w' → XV p l e { frames := 1, cells := 0, slots := 0, locals := 80 } s m args below meth c 3 D cs ad (MQ below (xQ D cs ad none w') args s 0 0 (xF ad)) 11 [(0, .ref (ad 9 0)), (1, .int b1)] [] w) (b1 : Int32) (w : Wd), X3_beginAtEnd_L41 k11 b1 w = some w' → XV p l e { frames := 1, cells := 0, slots := 0, locals := 80 } s m args below meth c 3 D cs ad (MQ below (xQ D cs ad none w') args s 0 0 (xF ad)) 41 [(0, .ref (ad 9 0)), (1, .int b1)] [] w := by
    intro k11 hk11 b1 w hm
    unfold X3_beginAtEnd_L41 at hm
    refine x_iincB (lv' := fun x_4 => [(1, .int x_4), (0, .ref (ad 9 0))]) (j := 1) E dX3_beginAtEnd_41 rfl rfl (by decide) (fun _ => rfl) hm (fun x_4 hm => ?_)
    refine x_goto (tgt := 11) E dX3_beginAtEnd_44 (by decide) ?_
    exact x_weak [1, 0] rfl (hk11 x_4 w hm)
  have hL11 : ∀ (fuel : Nat) (b1 : Int32) (w : Wd), X3_beginAtEnd_L11 fuel b1 w = some w' → XV p l e { frames := 1, cells := 0, slots := 0, locals := 80 } s m args below meth c 3 D cs ad (MQ below (xQ D cs ad none w') args s 0 0 (xF ad)) 11 [(0, .ref (ad 9 0)), (1, .int b1)] [] w := by
    intro fuel
    induction fuel with
    | zero => intro b1 w hm; cases hm
    | succ fuel ih =>
      intro b1 w hm
      rw [X3_beginAtEnd_L11] at hm
      refine x_iload_n E dX3_beginAtEnd_11 rfl 1 rfl ?_
      refine x_iconst (v := (iI 3)) E dX3_beginAtEnd_12 (by decide) ?_
      refine x_icmp_ge (tgt := 47) E dX3_beginAtEnd_13 (by decide) hm (fun _ hm => ?_) (fun _ hm => ?_)
      · exact x_vretS E hm dX3_beginAtEnd_47
      · refine x_iconst (v := (iI 0)) E dX3_beginAtEnd_16 (by decide) ?_
        refine x_istore_n (lv' := [(2, .int (iI 0)), (0, .ref (ad 9 0)), (1, .int b1)]) E dX3_beginAtEnd_17 rfl (by decide) rfl ?_
        exact x_weak [1, 2, 0] rfl ((hL18 1000 _ (hL41 _ (ih))) b1 (iI 0) w hm)
  unfold X3_beginAtEnd at hm
  refine x_aload_n E dX3_beginAtEnd_0 rfl 0 rfl ?_
  refine x_gf (v := .ref (ad 9 1)) E fr_X3_9 rfl rfl dX3_beginAtEnd_1 ?_
  refine x_ldc (v := (iI (-1000000))) E wG501 dX3_beginAtEnd_4 ?_
  refine x_callS (As := [.ref (ad 9 1), .int (iI (-1000000))]) (rest := []) E my_fill wG502 (c_fill l D cs ad rfl rfl (by decide) (by decide)) rfl ⟨Nat.le_of_ble_eq_true rfl, Nat.le_of_ble_eq_true rfl⟩ (Nat.le_of_ble_eq_true rfl) dX3_beginAtEnd_6 ?_
  refine x_bW hm (fun w_1 hm => ?_)
  refine x_iconst (v := (iI 0)) E dX3_beginAtEnd_9 (by decide) ?_
  refine x_istore_n (lv' := [(1, .int (iI 0)), (0, .ref (ad 9 0))]) E dX3_beginAtEnd_10 rfl (by decide) rfl ?_
  exact x_weak [1, 0] rfl ((hL11 1000) (iI 0) w_1 hm)
set_option maxRecDepth 100000 in
set_option maxHeartbeats 4000000 in
theorem c_X5_stateAt (l : Launch) (D : va_G) (cs : vCs) (ad : Nat → Nat → Nat) {w : Wd} {g : Nat} {a1 : Int32} (hg : kl g = 4) {r : Int32} (hm : X5_stateAt w g a1 = some r) : Mc l yX5_stateAt cX5_stateAt 2 (some .int) 0 0 D cs ad [.ref (ad g 0), .int a1] w (some (.int r)) w := by
  refine Mc.of (by decide) (Nat.le_of_ble_eq_true rfl) ?_
  intro p e s m args below meth c E
  replace E : EV p m c cX5_stateAt 2 s args RX5 yX5_stateAt (some .int) meth D cs ad := E
  unfold X5_stateAt at hm
  refine x_iload_n E dX5_stateAt_0 rfl 1 rfl ?_
  refine x_if_lt (tgt := 21) E dX5_stateAt_1 (by decide) hm (fun _ hm => ?_) (fun _ hm => ?_)
  · refine x_iconst (v := (iI (-1))) E dX5_stateAt_21 (by decide) ?_
    exact x_iretP E hm dX5_stateAt_22
  · refine x_iload_n E dX5_stateAt_4 rfl 1 rfl ?_
    refine x_aload_n E dX5_stateAt_5 rfl 0 rfl ?_
    refine x_gf (v := .int (rd w g 0 5)) E fr_X5_35 hg rfl dX5_stateAt_6 ?_
    refine x_icmp_gt (tgt := 21) E dX5_stateAt_9 (by decide) hm (fun _ hm => ?_) (fun _ hm => ?_)
    · refine x_iconst (v := (iI (-1))) E dX5_stateAt_21 (by decide) ?_
      exact x_iretP E hm dX5_stateAt_22
    · refine x_aload_n E dX5_stateAt_12 rfl 0 rfl ?_
      refine x_gf (v := .ref (ad g 1)) E fr_X5_9 hg rfl dX5_stateAt_13 ?_
      refine x_iload_n E dX5_stateAt_16 rfl 1 rfl ?_
      refine x_iald E hg rfl (by decide) dX5_stateAt_17 hm (fun x_1 hm => ?_)
      refine x_goto (tgt := 22) E dX5_stateAt_18 (by decide) ?_
      exact x_iretP E hm dX5_stateAt_22
set_option maxRecDepth 100000 in
set_option maxHeartbeats 4000000 in
theorem c_X3_leadAt (l : Launch) (D : va_G) (cs : vCs) (ad : Nat → Nat → Nat) {w : Wd} {a1 : Int32} {a2 : Int32} {r : Int32} (hm : X3_leadAt w a1 a2 = some r) : Mc l yX3_leadAt cX3_leadAt 3 (some .int) 0 0 D cs ad [.ref (ad 9 0), .int a1, .int a2] w (some (.int r)) w := by
  refine Mc.of (by decide) (Nat.le_of_ble_eq_true rfl) ?_
  intro p e s m args below meth c E
  replace E : EV p m c cX3_leadAt 3 s args RX3 yX3_leadAt (some .int) meth D cs ad := E
  unfold X3_leadAt at hm
  refine x_iload_n E dX3_leadAt_0 rfl 1 rfl ?_
  refine x_if_lt (tgt := 20) E dX3_leadAt_1 (by decide) hm (fun _ hm => ?_) (fun _ hm => ?_)
  · refine x_ldc (v := (iI (-1000000))) E wG501 dX3_leadAt_20 ?_
    exact x_iretP E hm dX3_leadAt_22
  · refine x_iload_n E dX3_leadAt_4 rfl 1 rfl ?_
    refine x_bipush (v := (iI 15)) E dX3_leadAt_5 (by decide) ?_
    refine x_icmp_ge (tgt := 20) E dX3_leadAt_7 (by decide) hm (fun _ hm => ?_) (fun _ hm => ?_)
    · refine x_ldc (v := (iI (-1000000))) E wG501 dX3_leadAt_20 ?_
      exact x_iretP E hm dX3_leadAt_22
    · refine x_iload_n E dX3_leadAt_10 rfl 2 rfl ?_
      refine x_if_lt (tgt := 20) E dX3_leadAt_11 (by decide) hm (fun _ hm => ?_) (fun _ hm => ?_)
      · refine x_ldc (v := (iI (-1000000))) E wG501 dX3_leadAt_20 ?_
        exact x_iretP E hm dX3_leadAt_22
      · refine x_iload_n E dX3_leadAt_14 rfl 2 rfl ?_
        refine x_bipush (v := (iI 15)) E dX3_leadAt_15 (by decide) ?_
        refine x_icmp_lt (tgt := 23) E dX3_leadAt_17 (by decide) hm (fun _ hm => ?_) (fun _ hm => ?_)
        · refine x_aload_n E dX3_leadAt_23 rfl 0 rfl ?_
          refine x_gf (v := .ref (ad 9 1)) E fr_X3_9 rfl rfl dX3_leadAt_24 ?_
          refine x_iload_n E dX3_leadAt_27 rfl 1 rfl ?_
          refine x_bipush (v := (iI 15)) E dX3_leadAt_28 (by decide) ?_
          refine x_imul E dX3_leadAt_30 ?_
          refine x_iload_n E dX3_leadAt_31 rfl 2 rfl ?_
          refine x_iadd E dX3_leadAt_32 ?_
          refine x_iald E rfl rfl (by decide) dX3_leadAt_33 hm (fun x_1 hm => ?_)
          exact x_iretP E hm dX3_leadAt_34
        · refine x_ldc (v := (iI (-1000000))) E wG501 dX3_leadAt_20 ?_
          exact x_iretP E hm dX3_leadAt_22
set_option maxRecDepth 100000 in
set_option maxHeartbeats 4000000 in
theorem c_X5_weightAt (l : Launch) (D : va_G) (cs : vCs) (ad : Nat → Nat → Nat) {w : Wd} {g : Nat} {a1 : Int32} (hg : kl g = 4) {r : Int32} (hm : X5_weightAt w g a1 = some r) : Mc l yX5_weightAt cX5_weightAt 2 (some .int) 0 0 D cs ad [.ref (ad g 0), .int a1] w (some (.int r)) w := by
  refine Mc.of (by decide) (Nat.le_of_ble_eq_true rfl) ?_
  intro p e s m args below meth c E
  replace E : EV p m c cX5_weightAt 2 s args RX5 yX5_weightAt (some .int) meth D cs ad := E
  unfold X5_weightAt at hm
  refine x_iload_n E dX5_weightAt_0 rfl 1 rfl ?_
  refine x_if_lt (tgt := 21) E dX5_weightAt_1 (by decide) hm (fun _ hm => ?_) (fun _ hm => ?_)
  · refine x_iconst (v := (iI 0)) E dX5_weightAt_21 (by decide) ?_
    exact x_iretP E hm dX5_weightAt_22
  · refine x_iload_n E dX5_weightAt_4 rfl 1 rfl ?_
    refine x_aload_n E dX5_weightAt_5 rfl 0 rfl ?_
    refine x_gf (v := .int (rd w g 0 5)) E fr_X5_35 hg rfl dX5_weightAt_6 ?_
    refine x_icmp_gt (tgt := 21) E dX5_weightAt_9 (by decide) hm (fun _ hm => ?_) (fun _ hm => ?_)
    · refine x_iconst (v := (iI 0)) E dX5_weightAt_21 (by decide) ?_
      exact x_iretP E hm dX5_weightAt_22
    · refine x_aload_n E dX5_weightAt_12 rfl 0 rfl ?_
      refine x_gf (v := .ref (ad g 2)) E fr_X5_15 hg rfl dX5_weightAt_13 ?_
      refine x_iload_n E dX5_weightAt_16 rfl 1 rfl ?_
      refine x_iald E hg rfl (by decide) dX5_weightAt_17 hm (fun x_1 hm => ?_)
      refine x_goto (tgt := 22) E dX5_weightAt_18 (by decide) ?_
      exact x_iretP E hm dX5_weightAt_22
set_option maxRecDepth 100000 in
set_option maxHeartbeats 4000000 in
theorem c_X3_lengthenBy (l : Launch) (D : va_G) (cs : vCs) (ad : Nat → Nat → Nat) {w : Wd} {a1 : Int32} {a2 : Int32} {a3 : Int32} {a4 : Int32} {g5 : Nat} (hg5 : kl g5 = 0) {w' : Wd} (hm : X3_lengthenBy w a1 a2 a3 a4 g5 = some w') : Mc l yX3_lengthenBy cX3_lengthenBy 11 none 1 80 D cs ad [.ref (ad 9 0), .int a1, .int a2, .int a3, .int a4, .ref (ad g5 0)] w none w' := by
  refine Mc.of (by decide) (Nat.le_of_ble_eq_true rfl) ?_
  intro p e s m args below meth c E
  replace E : EV p m c cX3_lengthenBy 11 s args RX3 yX3_lengthenBy none meth D cs ad := E
  have hL15 : ∀ (fuel : Nat) (b1 : Int32) (b2 : Int32) (b3 : Int32) (b4 : Int32) (b6 : Int32) (b7 : Int32) (w : Wd), X3_lengthenBy_L15 fuel g5 b1 b2 b3 b4 b6 b7 w = some w' → XV p l e { frames := 1, cells := 0, slots := 0, locals := 80 } s m args below meth c 11 D cs ad (MQ below (xQ D cs ad none w') args s 0 0 (xF ad)) 15 [(0, .ref (ad 9 0)), (1, .int b1), (2, .int b2), (3, .int b3), (4, .int b4), (5, .ref (ad g5 0)), (6, .int b6), (7, .int b7)] [] w := by
    intro fuel
    induction fuel with
    | zero => intro b1 b2 b3 b4 b6 b7 w hm; cases hm
    | succ fuel ih =>
      intro b1 b2 b3 b4 b6 b7 w hm
      rw [X3_lengthenBy_L15] at hm
      refine x_iload E dX3_lengthenBy_15 7 rfl ?_
      refine x_iload E dX3_lengthenBy_17 6 rfl ?_
      refine x_icmp_ge (tgt := 94) E dX3_lengthenBy_19 (by decide) hm (fun _ hm => ?_) (fun _ hm => ?_)
      · exact x_vretS E hm dX3_lengthenBy_94
      · refine x_aload_n E dX3_lengthenBy_22 rfl 0 rfl ?_
        refine x_iload_n E dX3_lengthenBy_23 rfl 3 rfl ?_
        refine x_aload E dX3_lengthenBy_24 5 rfl ?_
        refine x_iload E dX3_lengthenBy_26 7 rfl ?_
        refine x_iload_n E dX3_lengthenBy_28 rfl 1 rfl ?_
        obtain ⟨r_2, hc, hm⟩ := ob_inv hm
        refine x_callV (As := [.int b7, .int b1]) (rest := [.int b3, .ref (ad 9 0)]) E my_X0_nextState wG520 (c_X0_nextState l D cs ad hg5 hc) hg5 rfl rfl ⟨Nat.le_of_ble_eq_true rfl, Nat.le_of_ble_eq_true rfl⟩ (Nat.le_of_ble_eq_true rfl) dX3_lengthenBy_29 ?_
        obtain ⟨r_3, hc, hm⟩ := ob_inv hm
        refine x_callV (As := [.int b3, .int r_2]) (rest := []) E my_X3_leadAt wG503 (c_X3_leadAt l D cs ad hc) rfl rfl rfl ⟨Nat.le_of_ble_eq_true rfl, Nat.le_of_ble_eq_true rfl⟩ (Nat.le_of_ble_eq_true rfl) dX3_lengthenBy_32 ?_
        refine x_istore (lv' := [(8, .int r_3), (0, .ref (ad 9 0)), (1, .int b1), (2, .int b2), (3, .int b3), (4, .int b4), (5, .ref (ad g5 0)), (6, .int b6), (7, .int b7)]) E dX3_lengthenBy_35 (by decide) rfl ?_
        refine x_iload E dX3_lengthenBy_37 0 rfl ?_
        refine x_ldc (v := (iI (-1000000))) E wG501 dX3_lengthenBy_39 ?_
        refine x_icmp_eq (tgt := 88) E dX3_lengthenBy_41 (by decide) hm (fun _ hm => ?_) (fun _ hm => ?_)
        · refine x_iincB (lv' := fun x_4 => [(7, .int x_4), (8, .int r_3), (0, .ref (ad 9 0)), (1, .int b1), (2, .int b2), (3, .int b3), (4, .int b4), (5, .ref (ad g5 0)), (6, .int b6)]) (j := 8) E dX3_lengthenBy_88 rfl rfl (by decide) (fun _ => rfl) hm (fun x_4 hm => ?_)
          refine x_goto (tgt := 15) E dX3_lengthenBy_91 (by decide) ?_
          exact x_weak [2, 3, 4, 5, 6, 7, 8, 0] rfl ((ih) b1 b2 b3 b4 b6 x_4 w hm)
        · refine x_iload E dX3_lengthenBy_44 0 rfl ?_
          refine x_aload E dX3_lengthenBy_46 6 rfl ?_
          refine x_iload E dX3_lengthenBy_48 8 rfl ?_
          refine x_iload_n E dX3_lengthenBy_50 rfl 2 rfl ?_
          obtain ⟨r_5, hc, hm⟩ := ob_inv hm
          refine x_callV (As := [.int b7, .int b1]) (rest := [.int r_3]) E my_X0_gain wG521 (c_X0_gain l D cs ad hg5 hc) hg5 rfl rfl ⟨Nat.le_of_ble_eq_true rfl, Nat.le_of_ble_eq_true rfl⟩ (Nat.le_of_ble_eq_true rfl) dX3_lengthenBy_51 ?_
          refine x_iadd E dX3_lengthenBy_54 ?_
          refine x_iload E dX3_lengthenBy_55 5 rfl ?_
          refine x_isub E dX3_lengthenBy_57 ?_
          refine x_bI hm (fun x_6 hm => ?_)
          refine x_istore (lv' := [(9, .int x_6), (8, .int r_3), (0, .ref (ad 9 0)), (1, .int b1), (2, .int b2), (3, .int b3), (4, .int b4), (5, .ref (ad g5 0)), (6, .int b6), (7, .int b7)]) E dX3_lengthenBy_58 (by decide) rfl ?_
          refine x_iload_n E dX3_lengthenBy_60 rfl 4 rfl ?_
          refine x_bipush (v := (iI 15)) E dX3_lengthenBy_61 (by decide) ?_
          refine x_imul E dX3_lengthenBy_63 ?_
          refine x_iload E dX3_lengthenBy_64 9 rfl ?_
          refine x_iadd E dX3_lengthenBy_66 ?_
          refine x_bI hm (fun x_7 hm => ?_)
          refine x_istore (lv' := [(10, .int x_7), (9, .int x_6), (8, .int r_3), (0, .ref (ad 9 0)), (1, .int b1), (2, .int b2), (3, .int b3), (4, .int b4), (5, .ref (ad g5 0)), (6, .int b6), (7, .int b7)]) E dX3_lengthenBy_67 (by decide) rfl ?_
          refine x_aload_n E dX3_lengthenBy_69 rfl 3 rfl ?_
          refine x_gf (v := .ref (ad 9 2)) E fr_X3_15 rfl rfl dX3_lengthenBy_70 ?_
          refine x_iload E dX3_lengthenBy_73 0 rfl ?_
          refine x_aload_n E dX3_lengthenBy_75 rfl 3 rfl ?_
          refine x_gf (v := .ref (ad 9 2)) E fr_X3_15 rfl rfl dX3_lengthenBy_76 ?_
          refine x_iload E dX3_lengthenBy_79 0 rfl ?_
          refine x_iald E rfl rfl (by decide) dX3_lengthenBy_81 hm (fun x_8 hm => ?_)
          refine x_iload E dX3_lengthenBy_82 1 rfl ?_
          refine x_mmax E wG526 wG527 wG89 wG528 (Nat.le_of_ble_eq_true rfl) (Nat.le_of_ble_eq_true rfl) dX3_lengthenBy_84 ?_
          refine x_iast E rfl rfl (by decide) dX3_lengthenBy_87 hm (fun w_9 hm => ?_)
          refine x_iincB (lv' := fun x_10 => [(7, .int x_10), (10, .int x_7), (9, .int x_6), (8, .int r_3), (0, .ref (ad 9 0)), (1, .int b1), (2, .int b2), (3, .int b3), (4, .int b4), (5, .ref (ad g5 0)), (6, .int b6)]) (j := 10) E dX3_lengthenBy_88 rfl rfl (by decide) (fun _ => rfl) hm (fun x_10 hm => ?_)
          refine x_goto (tgt := 15) E dX3_lengthenBy_91 (by decide) ?_
          exact x_weak [4, 5, 6, 7, 8, 9, 10, 0] rfl ((ih) b1 b2 b3 b4 b6 x_10 w_9 hm)
  unfold X3_lengthenBy at hm
  refine x_aload E dX3_lengthenBy_0 5 rfl ?_
  refine x_callV (As := []) (rest := []) E my_X0_states wG515 (c_X0_states l D cs ad hg5 rfl) hg5 rfl rfl ⟨Nat.le_of_ble_eq_true rfl, Nat.le_of_ble_eq_true rfl⟩ (Nat.le_of_ble_eq_true rfl) dX3_lengthenBy_2 ?_
  refine x_bipush (v := (iI 15)) E dX3_lengthenBy_5 (by decide) ?_
  refine x_mmin E wG519 wG315 wG89 wG316 (Nat.le_of_ble_eq_true rfl) (Nat.le_of_ble_eq_true rfl) dX3_lengthenBy_7 ?_
  refine x_bI hm (fun x_1 hm => ?_)
  refine x_istore (lv' := [(6, .int x_1), (0, .ref (ad 9 0)), (1, .int a1), (2, .int a2), (3, .int a3), (4, .int a4), (5, .ref (ad g5 0))]) E dX3_lengthenBy_10 (by decide) rfl ?_
  refine x_iconst (v := (iI 0)) E dX3_lengthenBy_12 (by decide) ?_
  refine x_istore (lv' := [(7, .int (iI 0)), (6, .int x_1), (0, .ref (ad 9 0)), (1, .int a1), (2, .int a2), (3, .int a3), (4, .int a4), (5, .ref (ad g5 0))]) E dX3_lengthenBy_13 (by decide) rfl ?_
  exact x_weak [2, 3, 4, 5, 6, 7, 1, 0] rfl ((hL15 1000) a1 a2 a3 a4 x_1 (iI 0) w hm)
set_option maxRecDepth 100000 in
set_option maxHeartbeats 4000000 in
theorem c_X3_lengthen (l : Launch) (D : va_G) (cs : vCs) (ad : Nat → Nat → Nat) {w : Wd} {g1 : Nat} {g2 : Nat} (hg1 : kl g1 = 0) (hg2 : kl g2 = 0) {w' : Wd} (hm : X3_lengthen w g1 g2 = some w') : Mc l yX3_lengthen cX3_lengthen 7 none 2 110 D cs ad [.ref (ad 9 0), .ref (ad g1 0), .ref (ad g2 0)] w none w' := by
  refine Mc.of (by decide) (Nat.le_of_ble_eq_true rfl) ?_
  intro p e s m args below meth c E
  replace E : EV p m c cX3_lengthen 7 s args RX3 yX3_lengthen none meth D cs ad := E
  have hL31 : ∀ (fuel : Nat) (k79 : Int32 → Int32 → Wd → Option Wd) (hk79 : ∀ (b3 : Int32) (b4 : Int32) (w : Wd), k79 b3 b4 w = some w' → XV p l e { frames := 2, cells := 0, slots := 0, locals := 110 } s m args below meth c 7 D cs ad (MQ below (xQ D cs ad none w') args s 0 0 (xF ad)) 79 [(0, .ref (ad 9 0)), (1, .ref (ad g1 0)), (2, .ref (ad g2 0)), (3, .int b3), (4, .int b4)] [] w) (b3 : Int32) (b4 : Int32) (b5 : Int32) (w : Wd), X3_lengthen_L31 fuel k79 g1 g2 b3 b4 b5 w = some w' → XV p l e { frames := 2, cells := 0, slots := 0, locals := 110 } s m args below meth c 7 D cs ad (MQ below (xQ D cs ad none w') args s 0 0 (xF ad)) 31 [(0, .ref (ad 9 0)), (1, .ref (ad g1 0)), (2, .ref (ad g2 0)), (3, .int b3), (4, .int b4), (5, .int b5)] [] w := by
    intro fuel
    induction fuel with
    | zero => intro k79 hk79 b3 b4 b5 w hm; cases hm
    | succ fuel ih =>
      intro k79 hk79 b3 b4 b5 w hm
      rw [X3_lengthen_L31] at hm
      refine x_iload E dX3_lengthen_31 5 rfl ?_
      refine x_bipush (v := (iI 8)) E dX3_lengthen_33 (by decide) ?_
      refine x_icmp_ge (tgt := 79) E dX3_lengthen_35 (by decide) hm (fun _ hm => ?_) (fun _ hm => ?_)
      · exact x_weak [0, 1, 2, 3, 4] rfl (hk79 b3 b4 w hm)
      · refine x_aload_n E dX3_lengthen_38 rfl 1 rfl ?_
        refine x_iload E dX3_lengthen_39 4 rfl ?_
        refine x_iload E dX3_lengthen_41 5 rfl ?_
        obtain ⟨r_4, hc, hm⟩ := ob_inv hm
        refine x_callV (As := [.int b4, .int b5]) (rest := []) E my_X0_nextState wG520 (c_X0_nextState l D cs ad hg1 hc) hg1 rfl rfl ⟨Nat.le_of_ble_eq_true rfl, Nat.le_of_ble_eq_true rfl⟩ (Nat.le_of_ble_eq_true rfl) dX3_lengthen_43 ?_
        refine x_istore (lv' := [(6, .int r_4), (0, .ref (ad 9 0)), (1, .ref (ad g1 0)), (2, .ref (ad g2 0)), (3, .int b3), (4, .int b4), (5, .int b5)]) E dX3_lengthen_46 (by decide) rfl ?_
        refine x_iload E dX3_lengthen_48 0 rfl ?_
        refine x_iconst (v := (iI (-1))) E dX3_lengthen_50 (by decide) ?_
        refine x_icmp_eq (tgt := 73) E dX3_lengthen_51 (by decide) hm (fun _ hm => ?_) (fun _ hm => ?_)
        · refine x_iincB (lv' := fun x_5 => [(5, .int x_5), (6, .int r_4), (0, .ref (ad 9 0)), (1, .ref (ad g1 0)), (2, .ref (ad g2 0)), (3, .int b3), (4, .int b4)]) (j := 6) E dX3_lengthen_73 rfl rfl (by decide) (fun _ => rfl) hm (fun x_5 hm => ?_)
          refine x_goto (tgt := 31) E dX3_lengthen_76 (by decide) ?_
          exact x_weak [2, 3, 4, 5, 6, 0] rfl ((ih _ hk79) b3 b4 x_5 w hm)
        · refine x_aload_n E dX3_lengthen_54 rfl 1 rfl ?_
          refine x_iload E dX3_lengthen_55 6 rfl ?_
          refine x_iload E dX3_lengthen_57 5 rfl ?_
          refine x_iload E dX3_lengthen_59 0 rfl ?_
          refine x_aload_n E dX3_lengthen_61 rfl 2 rfl ?_
          refine x_iload E dX3_lengthen_62 5 rfl ?_
          refine x_iload E dX3_lengthen_64 6 rfl ?_
          obtain ⟨r_6, hc, hm⟩ := ob_inv hm
          refine x_callV (As := [.int b4, .int b5]) (rest := [.int r_4, .int b4, .int b5, .ref (ad 9 0)]) E my_X0_gain wG521 (c_X0_gain l D cs ad hg1 hc) hg1 rfl rfl ⟨Nat.le_of_ble_eq_true rfl, Nat.le_of_ble_eq_true rfl⟩ (Nat.le_of_ble_eq_true rfl) dX3_lengthen_66 ?_
          refine x_aload_n E dX3_lengthen_69 rfl 3 rfl ?_
          obtain ⟨w_7, hc, hm⟩ := ob_inv hm
          refine x_callV (As := [.int b5, .int b4, .int r_4, .int r_6, .ref (ad g2 0)]) (rest := []) E my_X3_lengthenBy wG522 (c_X3_lengthenBy l D cs ad hg2 hc) rfl rfl rfl ⟨Nat.le_of_ble_eq_true rfl, Nat.le_of_ble_eq_true rfl⟩ (Nat.le_of_ble_eq_true rfl) dX3_lengthen_70 ?_
          refine x_iincB (lv' := fun x_8 => [(5, .int x_8), (6, .int r_4), (0, .ref (ad 9 0)), (1, .ref (ad g1 0)), (2, .ref (ad g2 0)), (3, .int b3), (4, .int b4)]) (j := 6) E dX3_lengthen_73 rfl rfl (by decide) (fun _ => rfl) hm (fun x_8 hm => ?_)
          refine x_goto (tgt := 31) E dX3_lengthen_76 (by decide) ?_
          exact x_weak [2, 3, 4, 5, 6, 0] rfl ((ih _ hk79) b3 b4 x_8 w_7 hm)
  have hL79 : ∀ (k22 : Int32 → Int32 → Wd → Option Wd) (hk22 : ∀ (b3 : Int32) (b4 : Int32) (w : Wd), k22 b3 b4 w = some w' → XV p l e { frames := 2, cells := 0, slots := 0, locals := 110 } s m args below meth c 7 D cs ad (MQ below (xQ D cs ad none w') args s 0 0 (xF ad)) 22 [(0, .ref (ad 9 0)), (1, .ref (ad g1 0)), (2, .ref (ad g2 0)), (3, .int b3), (4, .int b4)] [] w) (b3 : Int32) (b4 : Int32) (w : Wd), X3_lengthen_L79 k22 g1 g2 b3 b4 w = some w' → XV p l e { frames := 2, cells := 0, slots := 0, locals := 110 } s m args below meth c 7 D cs ad (MQ below (xQ D cs ad none w') args s 0 0 (xF ad)) 79 [(0, .ref (ad 9 0)), (1, .ref (ad g1 0)), (2, .ref (ad g2 0)), (3, .int b3), (4, .int b4)] [] w := by
    intro k22 hk22 b3 b4 w hm
    unfold X3_lengthen_L79 at hm
    refine x_iincB (lv' := fun x_9 => [(4, .int x_9), (0, .ref (ad 9 0)), (1, .ref (ad g1 0)), (2, .ref (ad g2 0)), (3, .int b3)]) (j := 4) E dX3_lengthen_79 rfl rfl (by decide) (fun _ => rfl) hm (fun x_9 hm => ?_)
    refine x_goto (tgt := 22) E dX3_lengthen_82 (by decide) ?_
    exact x_weak [1, 2, 3, 4, 0] rfl (hk22 b3 x_9 w hm)
  have hL22 : ∀ (fuel : Nat) (k85 : Wd → Option Wd) (hk85 : ∀ (w : Wd), k85 w = some w' → XV p l e { frames := 2, cells := 0, slots := 0, locals := 110 } s m args below meth c 7 D cs ad (MQ below (xQ D cs ad none w') args s 0 0 (xF ad)) 85 [(0, .ref (ad 9 0))] [] w) (b3 : Int32) (b4 : Int32) (w : Wd), X3_lengthen_L22 fuel k85 g1 g2 b3 b4 w = some w' → XV p l e { frames := 2, cells := 0, slots := 0, locals := 110 } s m args below meth c 7 D cs ad (MQ below (xQ D cs ad none w') args s 0 0 (xF ad)) 22 [(0, .ref (ad 9 0)), (1, .ref (ad g1 0)), (2, .ref (ad g2 0)), (3, .int b3), (4, .int b4)] [] w := by
    intro fuel
    induction fuel with
    | zero => intro k85 hk85 b3 b4 w hm; cases hm
    | succ fuel ih =>
      intro k85 hk85 b3 b4 w hm
      rw [X3_lengthen_L22] at hm
      refine x_iload E dX3_lengthen_22 4 rfl ?_
      refine x_iload_n E dX3_lengthen_24 rfl 3 rfl ?_
      refine x_icmp_ge (tgt := 85) E dX3_lengthen_25 (by decide) hm (fun _ hm => ?_) (fun _ hm => ?_)
      · exact x_weak [0] rfl (hk85 w hm)
      · refine x_iconst (v := (iI 0)) E dX3_lengthen_28 (by decide) ?_
        refine x_istore (lv' := [(5, .int (iI 0)), (0, .ref (ad 9 0)), (1, .ref (ad g1 0)), (2, .ref (ad g2 0)), (3, .int b3), (4, .int b4)]) E dX3_lengthen_29 (by decide) rfl ?_
        exact x_weak [1, 2, 3, 4, 5, 0] rfl ((hL31 1000 _ (hL79 _ (ih _ hk85))) b3 b4 (iI 0) w hm)
  have hL85 : ∀ (w : Wd), X3_lengthen_L85 g1 g2 w = some w' → XV p l e { frames := 2, cells := 0, slots := 0, locals := 110 } s m args below meth c 7 D cs ad (MQ below (xQ D cs ad none w') args s 0 0 (xF ad)) 85 [(0, .ref (ad 9 0))] [] w := by
    intro w hm
    unfold X3_lengthen_L85 at hm
    refine x_aload_n E dX3_lengthen_85 rfl 0 rfl ?_
    refine x_gf (v := .ref (ad 9 2)) E fr_X3_15 rfl rfl dX3_lengthen_86 ?_
    refine x_iconst (v := (iI 0)) E dX3_lengthen_89 (by decide) ?_
    refine x_aload_n E dX3_lengthen_90 rfl 0 rfl ?_
    refine x_gf (v := .ref (ad 9 1)) E fr_X3_9 rfl rfl dX3_lengthen_91 ?_
    refine x_iconst (v := (iI 0)) E dX3_lengthen_94 (by decide) ?_
    refine x_aload_n E dX3_lengthen_95 rfl 0 rfl ?_
    refine x_gf (v := .ref (ad 9 1)) E fr_X3_9 rfl rfl dX3_lengthen_96 ?_
    refine x_alen (v := (iI 225)) E rfl rfl (by decide) (by decide) dX3_lengthen_99 ?_
    refine x_copy (nn := 225) E wG529 wG531 wG530 wG91 rfl rfl rfl rfl (by decide) rfl (by decide) (by decide) (by decide) (Nat.le_of_ble_eq_true rfl) (Nat.le_of_ble_eq_true rfl) dX3_lengthen_100 ?_
    refine x_bW hm (fun w_3 hm => ?_)
    exact x_vretS E hm dX3_lengthen_103
  unfold X3_lengthen at hm
  refine x_aload_n E dX3_lengthen_0 rfl 0 rfl ?_
  refine x_gf (v := .ref (ad 9 2)) E fr_X3_15 rfl rfl dX3_lengthen_1 ?_
  refine x_ldc (v := (iI (-1000000))) E wG501 dX3_lengthen_4 ?_
  refine x_callS (As := [.ref (ad 9 2), .int (iI (-1000000))]) (rest := []) E my_fill wG502 (c_fill l D cs ad rfl rfl (by decide) (by decide)) rfl ⟨Nat.le_of_ble_eq_true rfl, Nat.le_of_ble_eq_true rfl⟩ (Nat.le_of_ble_eq_true rfl) dX3_lengthen_6 ?_
  refine x_bW hm (fun w_1 hm => ?_)
  refine x_aload_n E dX3_lengthen_9 rfl 1 rfl ?_
  refine x_callV (As := []) (rest := []) E my_X0_states wG515 (c_X0_states l D cs ad hg1 rfl) hg1 rfl rfl ⟨Nat.le_of_ble_eq_true rfl, Nat.le_of_ble_eq_true rfl⟩ (Nat.le_of_ble_eq_true rfl) dX3_lengthen_10 ?_
  refine x_bipush (v := (iI 15)) E dX3_lengthen_13 (by decide) ?_
  refine x_mmin E wG519 wG315 wG89 wG316 (Nat.le_of_ble_eq_true rfl) (Nat.le_of_ble_eq_true rfl) dX3_lengthen_15 ?_
  refine x_bI hm (fun x_2 hm => ?_)
  refine x_istore_n (lv' := [(3, .int x_2), (0, .ref (ad 9 0)), (1, .ref (ad g1 0)), (2, .ref (ad g2 0))]) E dX3_lengthen_18 rfl (by decide) rfl ?_
  refine x_iconst (v := (iI 0)) E dX3_lengthen_19 (by decide) ?_
  refine x_istore (lv' := [(4, .int (iI 0)), (3, .int x_2), (0, .ref (ad 9 0)), (1, .ref (ad g1 0)), (2, .ref (ad g2 0))]) E dX3_lengthen_20 (by decide) rfl ?_
  exact x_weak [2, 3, 4, 1, 0] rfl ((hL22 1000 _ (hL85)) x_2 (iI 0) w_1 hm)
set_option maxRecDepth 100000 in
set_option maxHeartbeats 4000000 in
theorem c_X3_lastBeaten (l : Launch) (D : va_G) (cs : vCs) (ad : Nat → Nat → Nat) {w : Wd} {g1 : Nat} {g2 : Nat} {a3 : Int32} {a4 : Int32} (hg1 : kl g1 = 4) (hg2 : kl g2 = 4) {r : Int32} {w' : Wd} (hm : X3_lastBeaten w g1 g2 a3 a4 = some (r, w')) : Mc l yX3_lastBeaten cX3_lastBeaten 8 (some .int) 3 136 D cs ad [.ref (ad 9 0), .ref (ad g1 0), .ref (ad g2 0), .int a3, .int a4] w (some (.int r)) w' := by
  refine Mc.of (by decide) (Nat.le_of_ble_eq_true rfl) ?_
  intro p e s m args below meth c E
  replace E : EV p m c cX3_lastBeaten 8 s args RX3 yX3_lastBeaten (some .int) meth D cs ad := E
  have hL19 : ∀ (fuel : Nat) (b5 : Int32) (b6 : Int32) (w : Wd), X3_lastBeaten_L19 fuel g1 g2 b5 b6 w = some (r, w') → XV p l e { frames := 3, cells := 0, slots := 0, locals := 136 } s m args below meth c 8 D cs ad (MQ below (xQ D cs ad (some (.int r)) w') args s 0 0 (xF ad)) 19 [(0, .ref (ad 9 0)), (1, .ref (ad g1 0)), (2, .ref (ad g2 0)), (5, .int b5), (6, .int b6)] [] w := by
    intro fuel
    induction fuel with
    | zero => intro b5 b6 w hm; cases hm
    | succ fuel ih =>
      intro b5 b6 w hm
      rw [X3_lastBeaten_L19] at hm
      refine x_iload E dX3_lastBeaten_19 4 rfl ?_
      refine x_if_lt (tgt := 91) E dX3_lastBeaten_21 (by decide) hm (fun _ hm => ?_) (fun _ hm => ?_)
      · refine x_iconst (v := (iI (-1))) E dX3_lastBeaten_91 (by decide) ?_
        exact x_iretS E hm dX3_lastBeaten_92
      · refine x_aload_n E dX3_lastBeaten_24 rfl 0 rfl ?_
        refine x_aload_n E dX3_lastBeaten_25 rfl 1 rfl ?_
        refine x_iload E dX3_lastBeaten_26 4 rfl ?_
        obtain ⟨r_3, hc, hm⟩ := ob_inv hm
        refine x_callV (As := [.int b6]) (rest := [.ref (ad 9 0)]) E my_X5_stateAt wG477 (c_X5_stateAt l D cs ad hg1 hc) hg1 rfl rfl ⟨Nat.le_of_ble_eq_true rfl, Nat.le_of_ble_eq_true rfl⟩ (Nat.le_of_ble_eq_true rfl) dX3_lastBeaten_28 ?_
        refine x_aload_n E dX3_lastBeaten_31 rfl 2 rfl ?_
        refine x_iload E dX3_lastBeaten_32 4 rfl ?_
        obtain ⟨r_4, hc, hm⟩ := ob_inv hm
        refine x_callV (As := [.int b6]) (rest := [.int r_3, .ref (ad 9 0)]) E my_X5_stateAt wG477 (c_X5_stateAt l D cs ad hg2 hc) hg2 rfl rfl ⟨Nat.le_of_ble_eq_true rfl, Nat.le_of_ble_eq_true rfl⟩ (Nat.le_of_ble_eq_true rfl) dX3_lastBeaten_34 ?_
        obtain ⟨r_5, hc, hm⟩ := ob_inv hm
        refine x_callV (As := [.int r_3, .int r_4]) (rest := []) E my_X3_leadAt wG503 (c_X3_leadAt l D cs ad hc) rfl rfl rfl ⟨Nat.le_of_ble_eq_true rfl, Nat.le_of_ble_eq_true rfl⟩ (Nat.le_of_ble_eq_true rfl) dX3_lastBeaten_37 ?_
        refine x_istore (lv' := [(7, .int r_5), (0, .ref (ad 9 0)), (1, .ref (ad g1 0)), (2, .ref (ad g2 0)), (5, .int b5), (6, .int b6)]) E dX3_lastBeaten_40 (by decide) rfl ?_
        refine x_iload E dX3_lastBeaten_42 0 rfl ?_
        refine x_ldc (v := (iI (-1000000))) E wG501 dX3_lastBeaten_44 ?_
        refine x_icmp_eq (tgt := 73) E dX3_lastBeaten_46 (by decide) hm (fun _ hm => ?_) (fun _ hm => ?_)
        · refine x_aload_n E dX3_lastBeaten_73 rfl 1 rfl ?_
          refine x_aload_n E dX3_lastBeaten_74 rfl 2 rfl ?_
          refine x_gfN E rfl hg1 dX3_lastBeaten_75 ?_
          refine x_aload_n E dX3_lastBeaten_78 rfl 3 rfl ?_
          refine x_gfN E rfl hg2 dX3_lastBeaten_79 ?_
          obtain ⟨w_6, hc, hm⟩ := ob_inv hm
          refine x_callV (As := [.ref (ad (g1 - 4) 0), .ref (ad (g2 - 4) 0)]) (rest := []) E my_X3_lengthen wG511 (c_X3_lengthen l D cs ad (kl_rc hg1) (kl_rc hg2) hc) rfl rfl rfl ⟨Nat.le_of_ble_eq_true rfl, Nat.le_of_ble_eq_true rfl⟩ (Nat.le_of_ble_eq_true rfl) dX3_lastBeaten_82 ?_
          refine x_iincB (lv' := fun x_7 => [(6, .int x_7), (7, .int r_5), (0, .ref (ad 9 0)), (1, .ref (ad g1 0)), (2, .ref (ad g2 0)), (5, .int b5)]) (j := 5) E dX3_lastBeaten_85 rfl rfl (by decide) (fun _ => rfl) hm (fun x_7 hm => ?_)
          refine x_goto (tgt := 19) E dX3_lastBeaten_88 (by decide) ?_
          exact x_weak [2, 3, 4, 5, 0] rfl ((ih) b5 x_7 w_6 hm)
        · refine x_aload_n E dX3_lastBeaten_49 rfl 3 rfl ?_
          refine x_iload E dX3_lastBeaten_50 5 rfl ?_
          obtain ⟨r_8, hc, hm⟩ := ob_inv hm
          refine x_callV (As := [.int b6]) (rest := []) E my_X5_weightAt wG507 (c_X5_weightAt l D cs ad hg2 hc) hg2 rfl rfl ⟨Nat.le_of_ble_eq_true rfl, Nat.le_of_ble_eq_true rfl⟩ (Nat.le_of_ble_eq_true rfl) dX3_lastBeaten_52 ?_
          refine x_aload_n E dX3_lastBeaten_55 rfl 2 rfl ?_
          refine x_iload E dX3_lastBeaten_56 5 rfl ?_
          obtain ⟨r_9, hc, hm⟩ := ob_inv hm
          refine x_callV (As := [.int b6]) (rest := [.int r_8]) E my_X5_weightAt wG507 (c_X5_weightAt l D cs ad hg1 hc) hg1 rfl rfl ⟨Nat.le_of_ble_eq_true rfl, Nat.le_of_ble_eq_true rfl⟩ (Nat.le_of_ble_eq_true rfl) dX3_lastBeaten_58 ?_
          refine x_isub E dX3_lastBeaten_61 ?_
          refine x_iload E dX3_lastBeaten_62 0 rfl ?_
          refine x_iadd E dX3_lastBeaten_64 ?_
          refine x_iload E dX3_lastBeaten_65 4 rfl ?_
          refine x_icmp_lt (tgt := 73) E dX3_lastBeaten_67 (by decide) hm (fun _ hm => ?_) (fun _ hm => ?_)
          · refine x_aload_n E dX3_lastBeaten_73 rfl 1 rfl ?_
            refine x_aload_n E dX3_lastBeaten_74 rfl 2 rfl ?_
            refine x_gfN E rfl hg1 dX3_lastBeaten_75 ?_
            refine x_aload_n E dX3_lastBeaten_78 rfl 3 rfl ?_
            refine x_gfN E rfl hg2 dX3_lastBeaten_79 ?_
            obtain ⟨w_10, hc, hm⟩ := ob_inv hm
            refine x_callV (As := [.ref (ad (g1 - 4) 0), .ref (ad (g2 - 4) 0)]) (rest := []) E my_X3_lengthen wG511 (c_X3_lengthen l D cs ad (kl_rc hg1) (kl_rc hg2) hc) rfl rfl rfl ⟨Nat.le_of_ble_eq_true rfl, Nat.le_of_ble_eq_true rfl⟩ (Nat.le_of_ble_eq_true rfl) dX3_lastBeaten_82 ?_
            refine x_iincB (lv' := fun x_11 => [(6, .int x_11), (7, .int r_5), (0, .ref (ad 9 0)), (1, .ref (ad g1 0)), (2, .ref (ad g2 0)), (5, .int b5)]) (j := 5) E dX3_lastBeaten_85 rfl rfl (by decide) (fun _ => rfl) hm (fun x_11 hm => ?_)
            refine x_goto (tgt := 19) E dX3_lastBeaten_88 (by decide) ?_
            exact x_weak [2, 3, 4, 5, 0] rfl ((ih) b5 x_11 w_10 hm)
          · refine x_iload E dX3_lastBeaten_70 5 rfl ?_
            exact x_iretS E hm dX3_lastBeaten_72
  unfold X3_lastBeaten at hm
  refine x_iload E dX3_lastBeaten_0 4 rfl ?_
  refine x_if_eq (tgt := 9) E dX3_lastBeaten_2 (by decide) hm (fun _ hm => ?_) (fun _ hm => ?_)
  · refine x_iconst (v := (iI 1)) E dX3_lastBeaten_9 (by decide) ?_
    refine x_istore (lv' := [(5, .int (iI 1)), (0, .ref (ad 9 0)), (1, .ref (ad g1 0)), (2, .ref (ad g2 0)), (3, .int a3), (4, .int a4)]) E dX3_lastBeaten_10 (by decide) rfl ?_
    refine x_aload_n E dX3_lastBeaten_12 rfl 1 rfl ?_
    obtain ⟨w_1, hc, hm⟩ := ob_inv hm
    refine x_callV (As := []) (rest := []) E my_X3_beginAtEnd wG497 (c_X3_beginAtEnd l D cs ad hc) rfl rfl rfl ⟨Nat.le_of_ble_eq_true rfl, Nat.le_of_ble_eq_true rfl⟩ (Nat.le_of_ble_eq_true rfl) dX3_lastBeaten_13 ?_
    refine x_iload_n E dX3_lastBeaten_16 rfl 4 rfl ?_
    refine x_istore (lv' := [(6, .int a3), (5, .int (iI 1)), (0, .ref (ad 9 0)), (1, .ref (ad g1 0)), (2, .ref (ad g2 0)), (3, .int a3), (4, .int a4)]) E dX3_lastBeaten_17 (by decide) rfl ?_
    exact x_weak [2, 3, 4, 1, 0] rfl ((hL19 1000) (iI 1) a3 w_1 hm)
  · refine x_iconst (v := (iI 0)) E dX3_lastBeaten_5 (by decide) ?_
    refine x_goto (tgt := 10) E dX3_lastBeaten_6 (by decide) ?_
    refine x_istore (lv' := [(5, .int (iI 0)), (0, .ref (ad 9 0)), (1, .ref (ad g1 0)), (2, .ref (ad g2 0)), (3, .int a3), (4, .int a4)]) E dX3_lastBeaten_10 (by decide) rfl ?_
    refine x_aload_n E dX3_lastBeaten_12 rfl 1 rfl ?_
    obtain ⟨w_2, hc, hm⟩ := ob_inv hm
    refine x_callV (As := []) (rest := []) E my_X3_beginAtEnd wG497 (c_X3_beginAtEnd l D cs ad hc) rfl rfl rfl ⟨Nat.le_of_ble_eq_true rfl, Nat.le_of_ble_eq_true rfl⟩ (Nat.le_of_ble_eq_true rfl) dX3_lastBeaten_13 ?_
    refine x_iload_n E dX3_lastBeaten_16 rfl 4 rfl ?_
    refine x_istore (lv' := [(6, .int a3), (5, .int (iI 0)), (0, .ref (ad 9 0)), (1, .ref (ad g1 0)), (2, .ref (ad g2 0)), (3, .int a3), (4, .int a4)]) E dX3_lastBeaten_17 (by decide) rfl ?_
    exact x_weak [2, 3, 4, 1, 0] rfl ((hL19 1000) (iI 0) a3 w_2 hm)
set_option maxRecDepth 100000 in
set_option maxHeartbeats 4000000 in
theorem c_X3_oneUnitEarlier (l : Launch) (D : va_G) (cs : vCs) (ad : Nat → Nat → Nat) {w : Wd} {g0 : Nat} {a1 : Int32} (hg0 : kl g0 = 0) {r : Int32} (hm : X3_oneUnitEarlier w g0 a1 = some r) : Mc l yX3_oneUnitEarlier cX3_oneUnitEarlier 7 (some .int) 2 45 D cs ad [.ref (ad g0 0), .int a1] w (some (.int r)) w := by
  refine Mc.of (by decide) (Nat.le_of_ble_eq_true rfl) ?_
  intro p e s m args below meth c E
  replace E : EV p m c cX3_oneUnitEarlier 7 s args RX3 yX3_oneUnitEarlier (some .int) meth D cs ad := E
  have hL19 : ∀ (fuel : Nat) (k65 : Int32 → Int32 → Int32 → Int32 → Wd → Option Int32) (hk65 : ∀ (b1 : Int32) (b2 : Int32) (b3 : Int32) (b4 : Int32) (w : Wd), k65 b1 b2 b3 b4 w = some r → XV p l e { frames := 2, cells := 0, slots := 0, locals := 45 } s m args below meth c 7 D cs ad (MQ below (xQ D cs ad (some (.int r)) w) args s 0 0 (xF ad)) 65 [(0, .ref (ad g0 0)), (1, .int b1), (2, .int b2), (3, .int b3), (4, .int b4)] [] w) (b1 : Int32) (b2 : Int32) (b3 : Int32) (b4 : Int32) (b5 : Int32) (w : Wd), X3_oneUnitEarlier_L19 fuel k65 g0 b1 b2 b3 b4 b5 w = some r → XV p l e { frames := 2, cells := 0, slots := 0, locals := 45 } s m args below meth c 7 D cs ad (MQ below (xQ D cs ad (some (.int r)) w) args s 0 0 (xF ad)) 19 [(0, .ref (ad g0 0)), (1, .int b1), (2, .int b2), (3, .int b3), (4, .int b4), (5, .int b5)] [] w := by
    intro fuel
    induction fuel with
    | zero => intro k65 hk65 b1 b2 b3 b4 b5 w hm; cases hm
    | succ fuel ih =>
      intro k65 hk65 b1 b2 b3 b4 b5 w hm
      rw [X3_oneUnitEarlier_L19] at hm
      refine x_iload E dX3_oneUnitEarlier_19 5 rfl ?_
      refine x_bipush (v := (iI 8)) E dX3_oneUnitEarlier_21 (by decide) ?_
      refine x_icmp_ge (tgt := 65) E dX3_oneUnitEarlier_23 (by decide) hm (fun _ hm => ?_) (fun _ hm => ?_)
      · exact x_weak [0, 1, 2, 3, 4] rfl (hk65 b1 b2 b3 b4 w hm)
      · refine x_aload_n E dX3_oneUnitEarlier_26 rfl 0 rfl ?_
        refine x_iload E dX3_oneUnitEarlier_27 4 rfl ?_
        refine x_iload E dX3_oneUnitEarlier_29 5 rfl ?_
        obtain ⟨r_2, hc, hm⟩ := ob_inv hm
        refine x_callV (As := [.int b4, .int b5]) (rest := []) E my_X0_nextMode wG489 (c_X0_nextMode l D cs ad hg0 hc) hg0 rfl rfl ⟨Nat.le_of_ble_eq_true rfl, Nat.le_of_ble_eq_true rfl⟩ (Nat.le_of_ble_eq_true rfl) dX3_oneUnitEarlier_31 ?_
        refine x_istore (lv' := [(6, .int r_2), (0, .ref (ad g0 0)), (1, .int b1), (2, .int b2), (3, .int b3), (4, .int b4), (5, .int b5)]) E dX3_oneUnitEarlier_34 (by decide) rfl ?_
        refine x_iload E dX3_oneUnitEarlier_36 0 rfl ?_
        refine x_iconst (v := (iI (-1))) E dX3_oneUnitEarlier_38 (by decide) ?_
        refine x_icmp_eq (tgt := 59) E dX3_oneUnitEarlier_39 (by decide) hm (fun _ hm => ?_) (fun _ hm => ?_)
        · refine x_iincB (lv' := fun x_3 => [(5, .int x_3), (6, .int r_2), (0, .ref (ad g0 0)), (1, .int b1), (2, .int b2), (3, .int b3), (4, .int b4)]) (j := 6) E dX3_oneUnitEarlier_59 rfl rfl (by decide) (fun _ => rfl) hm (fun x_3 hm => ?_)
          refine x_goto (tgt := 19) E dX3_oneUnitEarlier_62 (by decide) ?_
          exact x_weak [2, 3, 4, 5, 6, 0] rfl ((ih _ hk65) b1 b2 b3 b4 x_3 w hm)
        · refine x_iload_n E dX3_oneUnitEarlier_42 rfl 2 rfl ?_
          refine x_iload E dX3_oneUnitEarlier_43 0 rfl ?_
          refine x_ishr E dX3_oneUnitEarlier_45 ?_
          refine x_iconst (v := (iI 1)) E dX3_oneUnitEarlier_46 (by decide) ?_
          refine x_iand E dX3_oneUnitEarlier_47 ?_
          refine x_iconst (v := (iI 1)) E dX3_oneUnitEarlier_48 (by decide) ?_
          refine x_icmp_ne (tgt := 59) E dX3_oneUnitEarlier_49 (by decide) hm (fun _ hm => ?_) (fun _ hm => ?_)
          · refine x_iincB (lv' := fun x_4 => [(5, .int x_4), (6, .int r_2), (0, .ref (ad g0 0)), (1, .int b1), (2, .int b2), (3, .int b3), (4, .int b4)]) (j := 6) E dX3_oneUnitEarlier_59 rfl rfl (by decide) (fun _ => rfl) hm (fun x_4 hm => ?_)
            refine x_goto (tgt := 19) E dX3_oneUnitEarlier_62 (by decide) ?_
            exact x_weak [2, 3, 4, 5, 6, 0] rfl ((ih _ hk65) b1 b2 b3 b4 x_4 w hm)
          · refine x_iload_n E dX3_oneUnitEarlier_52 rfl 3 rfl ?_
            refine x_iconst (v := (iI 1)) E dX3_oneUnitEarlier_53 (by decide) ?_
            refine x_iload E dX3_oneUnitEarlier_54 5 rfl ?_
            refine x_ishl E dX3_oneUnitEarlier_56 ?_
            refine x_ior E dX3_oneUnitEarlier_57 ?_
            refine x_bI hm (fun x_5 hm => ?_)
            refine x_istore_n (lv' := [(2, .int x_5), (6, .int r_2), (0, .ref (ad g0 0)), (1, .int b1), (3, .int b3), (4, .int b4), (5, .int b5)]) E dX3_oneUnitEarlier_58 rfl (by decide) rfl ?_
            refine x_iincB (lv' := fun x_6 => [(5, .int x_6), (2, .int x_5), (6, .int r_2), (0, .ref (ad g0 0)), (1, .int b1), (3, .int b3), (4, .int b4)]) (j := 6) E dX3_oneUnitEarlier_59 rfl rfl (by decide) (fun _ => rfl) hm (fun x_6 hm => ?_)
            refine x_goto (tgt := 19) E dX3_oneUnitEarlier_62 (by decide) ?_
            exact x_weak [3, 4, 1, 5, 6, 0] rfl ((ih _ hk65) b1 x_5 b3 b4 x_6 w hm)
  have hL65 : ∀ (k10 : Int32 → Int32 → Int32 → Int32 → Wd → Option Int32) (hk10 : ∀ (b1 : Int32) (b2 : Int32) (b3 : Int32) (b4 : Int32) (w : Wd), k10 b1 b2 b3 b4 w = some r → XV p l e { frames := 2, cells := 0, slots := 0, locals := 45 } s m args below meth c 7 D cs ad (MQ below (xQ D cs ad (some (.int r)) w) args s 0 0 (xF ad)) 10 [(0, .ref (ad g0 0)), (1, .int b1), (2, .int b2), (3, .int b3), (4, .int b4)] [] w) (b1 : Int32) (b2 : Int32) (b3 : Int32) (b4 : Int32) (w : Wd), X3_oneUnitEarlier_L65 k10 g0 b1 b2 b3 b4 w = some r → XV p l e { frames := 2, cells := 0, slots := 0, locals := 45 } s m args below meth c 7 D cs ad (MQ below (xQ D cs ad (some (.int r)) w) args s 0 0 (xF ad)) 65 [(0, .ref (ad g0 0)), (1, .int b1), (2, .int b2), (3, .int b3), (4, .int b4)] [] w := by
    intro k10 hk10 b1 b2 b3 b4 w hm
    unfold X3_oneUnitEarlier_L65 at hm
    refine x_iincB (lv' := fun x_7 => [(4, .int x_7), (0, .ref (ad g0 0)), (1, .int b1), (2, .int b2), (3, .int b3)]) (j := 4) E dX3_oneUnitEarlier_65 rfl rfl (by decide) (fun _ => rfl) hm (fun x_7 hm => ?_)
    refine x_goto (tgt := 10) E dX3_oneUnitEarlier_68 (by decide) ?_
    exact x_weak [1, 2, 3, 4, 0] rfl (hk10 b1 b2 b3 x_7 w hm)
  have hL10 : ∀ (fuel : Nat) (b1 : Int32) (b2 : Int32) (b3 : Int32) (b4 : Int32) (w : Wd), X3_oneUnitEarlier_L10 fuel g0 b1 b2 b3 b4 w = some r → XV p l e { frames := 2, cells := 0, slots := 0, locals := 45 } s m args below meth c 7 D cs ad (MQ below (xQ D cs ad (some (.int r)) w) args s 0 0 (xF ad)) 10 [(0, .ref (ad g0 0)), (1, .int b1), (2, .int b2), (3, .int b3), (4, .int b4)] [] w := by
    intro fuel
    induction fuel with
    | zero => intro b1 b2 b3 b4 w hm; cases hm
    | succ fuel ih =>
      intro b1 b2 b3 b4 w hm
      rw [X3_oneUnitEarlier_L10] at hm
      refine x_iload E dX3_oneUnitEarlier_10 4 rfl ?_
      refine x_iload_n E dX3_oneUnitEarlier_12 rfl 3 rfl ?_
      refine x_icmp_ge (tgt := 71) E dX3_oneUnitEarlier_13 (by decide) hm (fun _ hm => ?_) (fun _ hm => ?_)
      · refine x_iload_n E dX3_oneUnitEarlier_71 rfl 2 rfl ?_
        exact x_iretP E hm dX3_oneUnitEarlier_72
      · refine x_iconst (v := (iI 0)) E dX3_oneUnitEarlier_16 (by decide) ?_
        refine x_istore (lv' := [(5, .int (iI 0)), (0, .ref (ad g0 0)), (1, .int b1), (2, .int b2), (3, .int b3), (4, .int b4)]) E dX3_oneUnitEarlier_17 (by decide) rfl ?_
        exact x_weak [1, 2, 3, 4, 5, 0] rfl ((hL19 1000 _ (hL65 _ (ih))) b1 b2 b3 b4 (iI 0) w hm)
  unfold X3_oneUnitEarlier at hm
  refine x_iconst (v := (iI 0)) E dX3_oneUnitEarlier_0 (by decide) ?_
  refine x_istore_n (lv' := [(2, .int (iI 0)), (0, .ref (ad g0 0)), (1, .int a1)]) E dX3_oneUnitEarlier_1 rfl (by decide) rfl ?_
  refine x_aload_n E dX3_oneUnitEarlier_2 rfl 1 rfl ?_
  refine x_callV (As := []) (rest := []) E my_X0_modes wG485 (c_X0_modes l D cs ad hg0 rfl) hg0 rfl rfl ⟨Nat.le_of_ble_eq_true rfl, Nat.le_of_ble_eq_true rfl⟩ (Nat.le_of_ble_eq_true rfl) dX3_oneUnitEarlier_3 ?_
  refine x_bI hm (fun x_1 hm => ?_)
  refine x_istore_n (lv' := [(3, .int x_1), (2, .int (iI 0)), (0, .ref (ad g0 0)), (1, .int a1)]) E dX3_oneUnitEarlier_6 rfl (by decide) rfl ?_
  refine x_iconst (v := (iI 0)) E dX3_oneUnitEarlier_7 (by decide) ?_
  refine x_istore (lv' := [(4, .int (iI 0)), (3, .int x_1), (2, .int (iI 0)), (0, .ref (ad g0 0)), (1, .int a1)]) E dX3_oneUnitEarlier_8 (by decide) rfl ?_
  exact x_weak [3, 4, 2, 1, 0] rfl ((hL10 1000) a1 (iI 0) x_1 (iI 0) w hm)
set_option maxRecDepth 100000 in
set_option maxHeartbeats 4000000 in
theorem c_X3_lastHope (l : Launch) (D : va_G) (cs : vCs) (ad : Nat → Nat → Nat) {w : Wd} {g1 : Nat} {a2 : Int32} (hg1 : kl g1 = 4) {r : Int32} (hm : X3_lastHope w g1 a2 = some r) : Mc l yX3_lastHope cX3_lastHope 6 (some .int) 3 71 D cs ad [.ref (ad 9 0), .ref (ad g1 0), .int a2] w (some (.int r)) w := by
  refine Mc.of (by decide) (Nat.le_of_ble_eq_true rfl) ?_
  intro p e s m args below meth c E
  replace E : EV p m c cX3_lastHope 6 s args RX3 yX3_lastHope (some .int) meth D cs ad := E
  have hL5 : ∀ (fuel : Nat) (b3 : Int32) (b4 : Int32) (w : Wd), X3_lastHope_L5 fuel g1 b3 b4 w = some r → XV p l e { frames := 3, cells := 0, slots := 0, locals := 71 } s m args below meth c 6 D cs ad (MQ below (xQ D cs ad (some (.int r)) w) args s 0 0 (xF ad)) 5 [(1, .ref (ad g1 0)), (3, .int b3), (4, .int b4)] [] w := by
    intro fuel
    induction fuel with
    | zero => intro b3 b4 w hm; cases hm
    | succ fuel ih =>
      intro b3 b4 w hm
      rw [X3_lastHope_L5] at hm
      refine x_iload E dX3_lastHope_5 2 rfl ?_
      refine x_if_lt (tgt := 55) E dX3_lastHope_7 (by decide) hm (fun _ hm => ?_) (fun _ hm => ?_)
      · refine x_iconst (v := (iI (-1))) E dX3_lastHope_55 (by decide) ?_
        exact x_iretP E hm dX3_lastHope_56
      · refine x_aload_n E dX3_lastHope_10 rfl 0 rfl ?_
        refine x_iload E dX3_lastHope_11 2 rfl ?_
        obtain ⟨r_1, hc, hm⟩ := ob_inv hm
        refine x_callV (As := [.int b4]) (rest := []) E my_X5_stateAt wG477 (c_X5_stateAt l D cs ad hg1 hc) hg1 rfl rfl ⟨Nat.le_of_ble_eq_true rfl, Nat.le_of_ble_eq_true rfl⟩ (Nat.le_of_ble_eq_true rfl) dX3_lastHope_13 ?_
        refine x_istore (lv' := [(5, .int r_1), (1, .ref (ad g1 0)), (3, .int b3), (4, .int b4)]) E dX3_lastHope_16 (by decide) rfl ?_
        refine x_iload E dX3_lastHope_18 0 rfl ?_
        refine x_iconst (v := (iI (-1))) E dX3_lastHope_20 (by decide) ?_
        refine x_icmp_eq (tgt := 40) E dX3_lastHope_21 (by decide) hm (fun _ hm => ?_) (fun _ hm => ?_)
        · refine x_aload_n E dX3_lastHope_40 rfl 1 rfl ?_
          refine x_gfN E rfl hg1 dX3_lastHope_41 ?_
          refine x_iload_n E dX3_lastHope_44 rfl 2 rfl ?_
          obtain ⟨r_2, hc, hm⟩ := ob_inv hm
          refine x_callS (As := [.ref (ad (g1 - 4) 0), .int b3]) (rest := []) E my_X3_oneUnitEarlier wG482 (c_X3_oneUnitEarlier l D cs ad (kl_rc hg1) hc) rfl ⟨Nat.le_of_ble_eq_true rfl, Nat.le_of_ble_eq_true rfl⟩ (Nat.le_of_ble_eq_true rfl) dX3_lastHope_45 ?_
          refine x_istore_n (lv' := [(3, .int r_2), (5, .int r_1), (1, .ref (ad g1 0)), (4, .int b4)]) E dX3_lastHope_48 rfl (by decide) rfl ?_
          refine x_iincB (lv' := fun x_3 => [(4, .int x_3), (3, .int r_2), (5, .int r_1), (1, .ref (ad g1 0))]) (j := 3) E dX3_lastHope_49 rfl rfl (by decide) (fun _ => rfl) hm (fun x_3 hm => ?_)
          refine x_goto (tgt := 5) E dX3_lastHope_52 (by decide) ?_
          exact x_weak [3, 1, 0] rfl ((ih) r_2 x_3 w hm)
        · refine x_iload_n E dX3_lastHope_24 rfl 2 rfl ?_
          refine x_iload E dX3_lastHope_25 0 rfl ?_
          refine x_callS (As := [.int r_1]) (rest := [.int b3]) E my_X0_modeOf wG481 (c_X0_modeOf l D cs ad rfl) rfl ⟨Nat.le_of_ble_eq_true rfl, Nat.le_of_ble_eq_true rfl⟩ (Nat.le_of_ble_eq_true rfl) dX3_lastHope_27 ?_
          refine x_ishr E dX3_lastHope_30 ?_
          refine x_iconst (v := (iI 1)) E dX3_lastHope_31 (by decide) ?_
          refine x_iand E dX3_lastHope_32 ?_
          refine x_iconst (v := (iI 1)) E dX3_lastHope_33 (by decide) ?_
          refine x_icmp_ne (tgt := 40) E dX3_lastHope_34 (by decide) hm (fun _ hm => ?_) (fun _ hm => ?_)
          · refine x_aload_n E dX3_lastHope_40 rfl 1 rfl ?_
            refine x_gfN E rfl hg1 dX3_lastHope_41 ?_
            refine x_iload_n E dX3_lastHope_44 rfl 2 rfl ?_
            obtain ⟨r_4, hc, hm⟩ := ob_inv hm
            refine x_callS (As := [.ref (ad (g1 - 4) 0), .int b3]) (rest := []) E my_X3_oneUnitEarlier wG482 (c_X3_oneUnitEarlier l D cs ad (kl_rc hg1) hc) rfl ⟨Nat.le_of_ble_eq_true rfl, Nat.le_of_ble_eq_true rfl⟩ (Nat.le_of_ble_eq_true rfl) dX3_lastHope_45 ?_
            refine x_istore_n (lv' := [(3, .int r_4), (5, .int r_1), (1, .ref (ad g1 0)), (4, .int b4)]) E dX3_lastHope_48 rfl (by decide) rfl ?_
            refine x_iincB (lv' := fun x_5 => [(4, .int x_5), (3, .int r_4), (5, .int r_1), (1, .ref (ad g1 0))]) (j := 3) E dX3_lastHope_49 rfl rfl (by decide) (fun _ => rfl) hm (fun x_5 hm => ?_)
            refine x_goto (tgt := 5) E dX3_lastHope_52 (by decide) ?_
            exact x_weak [3, 1, 0] rfl ((ih) r_4 x_5 w hm)
          · refine x_iload E dX3_lastHope_37 3 rfl ?_
            exact x_iretP E hm dX3_lastHope_39
  unfold X3_lastHope at hm
  refine x_iconst (v := (iI 1)) E dX3_lastHope_0 (by decide) ?_
  refine x_istore_n (lv' := [(3, .int (iI 1)), (0, .ref (ad 9 0)), (1, .ref (ad g1 0)), (2, .int a2)]) E dX3_lastHope_1 rfl (by decide) rfl ?_
  refine x_iload_n E dX3_lastHope_2 rfl 3 rfl ?_
  refine x_istore (lv' := [(4, .int a2), (3, .int (iI 1)), (0, .ref (ad 9 0)), (1, .ref (ad g1 0)), (2, .int a2)]) E dX3_lastHope_3 (by decide) rfl ?_
  exact x_weak [3, 1, 0] rfl ((hL5 1000) (iI 1) a2 w hm)
set_option maxRecDepth 100000 in
set_option maxHeartbeats 4000000 in
theorem c_X4_reach (l : Launch) (D : va_G) (cs : vCs) (ad : Nat → Nat → Nat) {w : Wd} {a1 : Int32} {a2 : Int32} {a3 : Int32} {w' : Wd} (hm : X4_reach w a1 a2 a3 = some w') : Mc l yX4_reach cX4_reach 4 none 0 0 D cs ad [.ref (ad 10 0), .int a1, .int a2, .int a3] w none w' := by
  refine Mc.of (by decide) (Nat.le_of_ble_eq_true rfl) ?_
  intro p e s m args below meth c E
  replace E : EV p m c cX4_reach 4 s args RX4 yX4_reach none meth D cs ad := E
  unfold X4_reach at hm
  refine x_iload_n E dX4_reach_0 rfl 1 rfl ?_
  refine x_if_lt (tgt := 64) E dX4_reach_1 (by decide) hm (fun _ hm => ?_) (fun _ hm => ?_)
  · exact x_vretS E hm dX4_reach_64
  · refine x_iload_n E dX4_reach_4 rfl 1 rfl ?_
    refine x_bipush (v := (iI 30)) E dX4_reach_5 (by decide) ?_
    refine x_icmp_ge (tgt := 64) E dX4_reach_7 (by decide) hm (fun _ hm => ?_) (fun _ hm => ?_)
    · exact x_vretS E hm dX4_reach_64
    · refine x_aload_n E dX4_reach_10 rfl 0 rfl ?_
      refine x_gf (v := .ref (ad 10 2)) E fr_X4_15 rfl rfl dX4_reach_11 ?_
      refine x_iload_n E dX4_reach_14 rfl 1 rfl ?_
      refine x_iald E rfl rfl (by decide) dX4_reach_15 hm (fun x_1 hm => ?_)
      refine x_bipush (v := (iI (-2))) E dX4_reach_16 (by decide) ?_
      refine x_icmp_ne (tgt := 64) E dX4_reach_18 (by decide) hm (fun _ hm => ?_) (fun _ hm => ?_)
      · exact x_vretS E hm dX4_reach_64
      · refine x_aload_n E dX4_reach_21 rfl 0 rfl ?_
        refine x_gf (v := .int (rd w 10 0 4)) E fr_X4_30 rfl rfl dX4_reach_22 ?_
        refine x_bipush (v := (iI 30)) E dX4_reach_25 (by decide) ?_
        refine x_icmp_ge (tgt := 64) E dX4_reach_27 (by decide) hm (fun _ hm => ?_) (fun _ hm => ?_)
        · exact x_vretS E hm dX4_reach_64
        · refine x_aload_n E dX4_reach_30 rfl 0 rfl ?_
          refine x_gf (v := .ref (ad 10 2)) E fr_X4_15 rfl rfl dX4_reach_31 ?_
          refine x_iload_n E dX4_reach_34 rfl 1 rfl ?_
          refine x_iload_n E dX4_reach_35 rfl 2 rfl ?_
          refine x_iast E rfl rfl (by decide) dX4_reach_36 hm (fun w_2 hm => ?_)
          refine x_aload_n E dX4_reach_37 rfl 0 rfl ?_
          refine x_gf (v := .ref (ad 10 3)) E fr_X4_18 rfl rfl dX4_reach_38 ?_
          refine x_iload_n E dX4_reach_41 rfl 1 rfl ?_
          refine x_iload_n E dX4_reach_42 rfl 3 rfl ?_
          refine x_iast E rfl rfl (by decide) dX4_reach_43 hm (fun w_3 hm => ?_)
          refine x_aload_n E dX4_reach_44 rfl 0 rfl ?_
          refine x_gf (v := .ref (ad 10 1)) E fr_X4_11 rfl rfl dX4_reach_45 ?_
          refine x_aload_n E dX4_reach_48 rfl 0 rfl ?_
          refine x_gf (v := .int (rd w_3 10 0 4)) E fr_X4_30 rfl rfl dX4_reach_49 ?_
          refine x_iload_n E dX4_reach_52 rfl 1 rfl ?_
          refine x_iast E rfl rfl (by decide) dX4_reach_53 hm (fun w_4 hm => ?_)
          refine x_aload_n E dX4_reach_54 rfl 0 rfl ?_
          refine x_dup E dX4_reach_55 rfl ?_
          refine x_gf (v := .int (rd w_4 10 0 4)) E fr_X4_30 rfl rfl dX4_reach_56 ?_
          refine x_iconst (v := (iI 1)) E dX4_reach_59 (by decide) ?_
          refine x_iadd E dX4_reach_60 ?_
          refine x_pf E fr_X4_30 rfl (by decide) rfl rfl dX4_reach_61 ?_
          refine x_bW hm (fun w_5 hm => ?_)
          exact x_vretS E hm dX4_reach_64
set_option maxRecDepth 100000 in
set_option maxHeartbeats 4000000 in
theorem c_X4_expand (l : Launch) (D : va_G) (cs : vCs) (ad : Nat → Nat → Nat) {w : Wd} {a1 : Int32} {g2 : Nat} {g3 : Nat} (hg2 : kl g2 = 0) (hg3 : kl g3 = 0) {w' : Wd} (hm : X4_expand w a1 g2 g3 = some w') : Mc l yX4_expand cX4_expand 7 none 2 45 D cs ad [.ref (ad 10 0), .int a1, .ref (ad g2 0), .ref (ad g3 0)] w none w' := by
  refine Mc.of (by decide) (Nat.le_of_ble_eq_true rfl) ?_
  intro p e s m args below meth c E
  replace E : EV p m c cX4_expand 7 s args RX4 yX4_expand none meth D cs ad := E
  have hL3 : ∀ (fuel : Nat) (b1 : Int32) (b4 : Int32) (w : Wd), X4_expand_L3 fuel g2 g3 b1 b4 w = some w' → XV p l e { frames := 2, cells := 0, slots := 0, locals := 45 } s m args below meth c 7 D cs ad (MQ below (xQ D cs ad none w') args s 0 0 (xF ad)) 3 [(0, .ref (ad 10 0)), (1, .int b1), (2, .ref (ad g2 0)), (3, .ref (ad g3 0)), (4, .int b4)] [] w := by
    intro fuel
    induction fuel with
    | zero => intro b1 b4 w hm; cases hm
    | succ fuel ih =>
      intro b1 b4 w hm
      rw [X4_expand_L3] at hm
      refine x_iload E dX4_expand_3 4 rfl ?_
      refine x_bipush (v := (iI 8)) E dX4_expand_5 (by decide) ?_
      refine x_icmp_ge (tgt := 71) E dX4_expand_7 (by decide) hm (fun _ hm => ?_) (fun _ hm => ?_)
      · exact x_vretS E hm dX4_expand_71
      · refine x_aload_n E dX4_expand_10 rfl 2 rfl ?_
        refine x_iload_n E dX4_expand_11 rfl 1 rfl ?_
        refine x_bipush (v := (iI 6)) E dX4_expand_12 (by decide) ?_
        refine x_idiv E dX4_expand_14 (by decide) ?_
        refine x_iload E dX4_expand_15 4 rfl ?_
        obtain ⟨r_1, hc, hm⟩ := ob_inv hm
        refine x_callV (As := [.int (b1 / (iI 6)), .int b4]) (rest := []) E my_X0_nextMode wG608 (c_X0_nextMode l D cs ad hg2 hc) hg2 rfl rfl ⟨Nat.le_of_ble_eq_true rfl, Nat.le_of_ble_eq_true rfl⟩ (Nat.le_of_ble_eq_true rfl) dX4_expand_17 ?_
        refine x_istore (lv' := [(5, .int r_1), (0, .ref (ad 10 0)), (1, .int b1), (2, .ref (ad g2 0)), (3, .ref (ad g3 0)), (4, .int b4)]) E dX4_expand_20 (by decide) rfl ?_
        refine x_iload E dX4_expand_22 0 rfl ?_
        refine x_iconst (v := (iI (-1))) E dX4_expand_24 (by decide) ?_
        refine x_icmp_eq (tgt := 65) E dX4_expand_25 (by decide) hm (fun _ hm => ?_) (fun _ hm => ?_)
        · refine x_iincB (lv' := fun x_2 => [(4, .int x_2), (5, .int r_1), (0, .ref (ad 10 0)), (1, .int b1), (2, .ref (ad g2 0)), (3, .ref (ad g3 0))]) (j := 5) E dX4_expand_65 rfl rfl (by decide) (fun _ => rfl) hm (fun x_2 hm => ?_)
          refine x_goto (tgt := 3) E dX4_expand_68 (by decide) ?_
          exact x_weak [2, 3, 4, 5, 0] rfl ((ih) b1 x_2 w hm)
        · refine x_aload_n E dX4_expand_28 rfl 4 rfl ?_
          refine x_iload_n E dX4_expand_29 rfl 2 rfl ?_
          refine x_bipush (v := (iI 6)) E dX4_expand_30 (by decide) ?_
          refine x_irem E dX4_expand_32 (by decide) ?_
          refine x_iload E dX4_expand_33 5 rfl ?_
          obtain ⟨r_3, hc, hm⟩ := ob_inv hm
          refine x_callV (As := [.int (irm b1 (iI 6)), .int b4]) (rest := []) E my_X0_nextMode wG608 (c_X0_nextMode l D cs ad hg3 hc) hg3 rfl rfl ⟨Nat.le_of_ble_eq_true rfl, Nat.le_of_ble_eq_true rfl⟩ (Nat.le_of_ble_eq_true rfl) dX4_expand_35 ?_
          refine x_istore (lv' := [(6, .int r_3), (5, .int r_1), (0, .ref (ad 10 0)), (1, .int b1), (2, .ref (ad g2 0)), (3, .ref (ad g3 0)), (4, .int b4)]) E dX4_expand_38 (by decide) rfl ?_
          refine x_aload_n E dX4_expand_40 rfl 2 rfl ?_
          refine x_iload E dX4_expand_41 1 rfl ?_
          refine x_bipush (v := (iI 6)) E dX4_expand_43 (by decide) ?_
          refine x_imul E dX4_expand_45 ?_
          refine x_iload E dX4_expand_46 0 rfl ?_
          refine x_iconst (v := (iI (-1))) E dX4_expand_48 (by decide) ?_
          refine x_icmp_ne (tgt := 56) E dX4_expand_49 (by decide) hm (fun _ hm => ?_) (fun _ hm => ?_)
          · refine x_iload E dX4_expand_56 0 rfl ?_
            refine x_iadd E dX4_expand_58 ?_
            refine x_iload_n E dX4_expand_59 rfl 3 rfl ?_
            refine x_iload E dX4_expand_60 6 rfl ?_
            obtain ⟨w_4, hc, hm⟩ := ob_inv hm
            refine x_callV (As := [.int ((r_1 * (iI 6)) + r_3), .int b1, .int b4]) (rest := []) E my_X4_reach wG593 (c_X4_reach l D cs ad hc) rfl rfl rfl ⟨Nat.le_of_ble_eq_true rfl, Nat.le_of_ble_eq_true rfl⟩ (Nat.le_of_ble_eq_true rfl) dX4_expand_62 ?_
            refine x_iincB (lv' := fun x_5 => [(4, .int x_5), (6, .int r_3), (5, .int r_1), (0, .ref (ad 10 0)), (1, .int b1), (2, .ref (ad g2 0)), (3, .ref (ad g3 0))]) (j := 6) E dX4_expand_65 rfl rfl (by decide) (fun _ => rfl) hm (fun x_5 hm => ?_)
            refine x_goto (tgt := 3) E dX4_expand_68 (by decide) ?_
            exact x_weak [3, 4, 5, 6, 0] rfl ((ih) b1 x_5 w_4 hm)
          · refine x_iconst (v := (iI 5)) E dX4_expand_52 (by decide) ?_
            refine x_goto (tgt := 58) E dX4_expand_53 (by decide) ?_
            refine x_iadd E dX4_expand_58 ?_
            refine x_iload_n E dX4_expand_59 rfl 3 rfl ?_
            refine x_iload E dX4_expand_60 6 rfl ?_
            obtain ⟨w_6, hc, hm⟩ := ob_inv hm
            refine x_callV (As := [.int ((r_1 * (iI 6)) + (iI 5)), .int b1, .int b4]) (rest := []) E my_X4_reach wG593 (c_X4_reach l D cs ad hc) rfl rfl rfl ⟨Nat.le_of_ble_eq_true rfl, Nat.le_of_ble_eq_true rfl⟩ (Nat.le_of_ble_eq_true rfl) dX4_expand_62 ?_
            refine x_iincB (lv' := fun x_7 => [(4, .int x_7), (6, .int r_3), (5, .int r_1), (0, .ref (ad 10 0)), (1, .int b1), (2, .ref (ad g2 0)), (3, .ref (ad g3 0))]) (j := 6) E dX4_expand_65 rfl rfl (by decide) (fun _ => rfl) hm (fun x_7 hm => ?_)
            refine x_goto (tgt := 3) E dX4_expand_68 (by decide) ?_
            exact x_weak [3, 4, 5, 6, 0] rfl ((ih) b1 x_7 w_6 hm)
  unfold X4_expand at hm
  refine x_iconst (v := (iI 0)) E dX4_expand_0 (by decide) ?_
  refine x_istore (lv' := [(4, .int (iI 0)), (0, .ref (ad 10 0)), (1, .int a1), (2, .ref (ad g2 0)), (3, .ref (ad g3 0))]) E dX4_expand_1 (by decide) rfl ?_
  exact x_weak [1, 2, 3, 4, 0] rfl ((hL3 1000) a1 (iI 0) w hm)
set_option maxRecDepth 100000 in
set_option maxHeartbeats 4000000 in
theorem c_X4_parts (l : Launch) (D : va_G) (cs : vCs) (ad : Nat → Nat → Nat) {w : Wd} {a0 : Int32} {r : Int32} (hm : X4_parts a0 = r) : Mc l yX4_parts cX4_parts 1 (some .boolean) 0 0 D cs ad [.int a0] w (some (.int r)) w := by
  refine Mc.of (by decide) (Nat.le_of_ble_eq_true rfl) ?_
  intro p e s m args below meth c E
  replace E : EV p m c cX4_parts 1 s args RX4 yX4_parts (some .boolean) meth D cs ad := E
  unfold X4_parts at hm
  refine x_iload_n E dX4_parts_0 rfl 0 rfl ?_
  refine x_bipush (v := (iI 6)) E dX4_parts_1 (by decide) ?_
  refine x_idiv E dX4_parts_3 (by decide) ?_
  refine x_if_ne (tgt := 18) E dX4_parts_4 (by decide) hm (fun _ hm => ?_) (fun _ hm => ?_)
  · refine x_iconst (v := (iI 0)) E dX4_parts_18 (by decide) ?_
    exact x_zretT E rfl hm dX4_parts_19
  · refine x_iload_n E dX4_parts_7 rfl 0 rfl ?_
    refine x_bipush (v := (iI 6)) E dX4_parts_8 (by decide) ?_
    refine x_irem E dX4_parts_10 (by decide) ?_
    refine x_if_eq (tgt := 18) E dX4_parts_11 (by decide) hm (fun _ hm => ?_) (fun _ hm => ?_)
    · refine x_iconst (v := (iI 0)) E dX4_parts_18 (by decide) ?_
      exact x_zretT E rfl hm dX4_parts_19
    · refine x_iconst (v := (iI 1)) E dX4_parts_14 (by decide) ?_
      refine x_goto (tgt := 19) E dX4_parts_15 (by decide) ?_
      exact x_zretT E rfl hm dX4_parts_19
set_option maxRecDepth 100000 in
set_option maxHeartbeats 4000000 in
theorem c_X4_rowLength (l : Launch) (D : va_G) (cs : vCs) (ad : Nat → Nat → Nat) {w : Wd} {r : Int32} (hm : X4_rowLength w = r) : Mc l yX4_rowLength cX4_rowLength 1 (some .int) 0 0 D cs ad [.ref (ad 10 0)] w (some (.int r)) w := by
  refine Mc.of (by decide) (Nat.le_of_ble_eq_true rfl) ?_
  intro p e s m args below meth c E
  replace E : EV p m c cX4_rowLength 1 s args RX4 yX4_rowLength (some .int) meth D cs ad := E
  unfold X4_rowLength at hm
  refine x_aload_n E dX4_rowLength_0 rfl 0 rfl ?_
  refine x_gf (v := .int (rd w 10 0 5)) E fr_X4_34 rfl rfl dX4_rowLength_1 ?_
  exact x_iretT E hm dX4_rowLength_4
set_option maxRecDepth 100000 in
set_option maxHeartbeats 4000000 in
theorem c_X4_rowUnit (l : Launch) (D : va_G) (cs : vCs) (ad : Nat → Nat → Nat) {w : Wd} {a1 : Int32} {r : Int32} (hm : X4_rowUnit w a1 = some r) : Mc l yX4_rowUnit cX4_rowUnit 2 (some .int) 0 0 D cs ad [.ref (ad 10 0), .int a1] w (some (.int r)) w := by
  refine Mc.of (by decide) (Nat.le_of_ble_eq_true rfl) ?_
  intro p e s m args below meth c E
  replace E : EV p m c cX4_rowUnit 2 s args RX4 yX4_rowUnit (some .int) meth D cs ad := E
  unfold X4_rowUnit at hm
  refine x_iload_n E dX4_rowUnit_0 rfl 1 rfl ?_
  refine x_if_lt (tgt := 27) E dX4_rowUnit_1 (by decide) hm (fun _ hm => ?_) (fun _ hm => ?_)
  · refine x_bipush (v := (iI (-101))) E dX4_rowUnit_27 (by decide) ?_
    exact x_iretP E hm dX4_rowUnit_29
  · refine x_iload_n E dX4_rowUnit_4 rfl 1 rfl ?_
    refine x_aload_n E dX4_rowUnit_5 rfl 0 rfl ?_
    refine x_gf (v := .int (rd w 10 0 5)) E fr_X4_34 rfl rfl dX4_rowUnit_6 ?_
    refine x_icmp_ge (tgt := 27) E dX4_rowUnit_9 (by decide) hm (fun _ hm => ?_) (fun _ hm => ?_)
    · refine x_bipush (v := (iI (-101))) E dX4_rowUnit_27 (by decide) ?_
      exact x_iretP E hm dX4_rowUnit_29
    · refine x_iload_n E dX4_rowUnit_12 rfl 1 rfl ?_
      refine x_bipush (v := (iI 30)) E dX4_rowUnit_13 (by decide) ?_
      refine x_icmp_ge (tgt := 27) E dX4_rowUnit_15 (by decide) hm (fun _ hm => ?_) (fun _ hm => ?_)
      · refine x_bipush (v := (iI (-101))) E dX4_rowUnit_27 (by decide) ?_
        exact x_iretP E hm dX4_rowUnit_29
      · refine x_aload_n E dX4_rowUnit_18 rfl 0 rfl ?_
        refine x_gf (v := .ref (ad 10 4)) E fr_X4_21 rfl rfl dX4_rowUnit_19 ?_
        refine x_iload_n E dX4_rowUnit_22 rfl 1 rfl ?_
        refine x_iald E rfl rfl (by decide) dX4_rowUnit_23 hm (fun x_1 hm => ?_)
        refine x_goto (tgt := 29) E dX4_rowUnit_24 (by decide) ?_
        exact x_iretP E hm dX4_rowUnit_29
set_option maxRecDepth 100000 in
set_option maxHeartbeats 4000000 in
theorem c_X4_writeRow (l : Launch) (D : va_G) (cs : vCs) (ad : Nat → Nat → Nat) {w : Wd} {a1 : Int32} {w' : Wd} (hm : X4_writeRow w a1 = some w') : Mc l yX4_writeRow cX4_writeRow 5 none 0 0 D cs ad [.ref (ad 10 0), .int a1] w none w' := by
  refine Mc.of (by decide) (Nat.le_of_ble_eq_true rfl) ?_
  intro p e s m args below meth c E
  replace E : EV p m c cX4_writeRow 5 s args RX4 yX4_writeRow none meth D cs ad := E
  have hL4 : ∀ (fuel : Nat) (k43 : Int32 → Int32 → Wd → Option Wd) (hk43 : ∀ (b1 : Int32) (b2 : Int32) (w : Wd), k43 b1 b2 w = some w' → XV p l e { frames := 0, cells := 0, slots := 0, locals := 0 } s m args below meth c 5 D cs ad (MQ below (xQ D cs ad none w') args s 0 0 (xF ad)) 43 [(0, .ref (ad 10 0)), (1, .int b1), (2, .int b2)] [] w) (b1 : Int32) (b2 : Int32) (b3 : Int32) (w : Wd), X4_writeRow_L4 fuel k43 b1 b2 b3 w = some w' → XV p l e { frames := 0, cells := 0, slots := 0, locals := 0 } s m args below meth c 5 D cs ad (MQ below (xQ D cs ad none w') args s 0 0 (xF ad)) 4 [(0, .ref (ad 10 0)), (1, .int b1), (2, .int b2), (3, .int b3)] [] w := by
    intro fuel
    induction fuel with
    | zero => intro k43 hk43 b1 b2 b3 w hm; cases hm
    | succ fuel ih =>
      intro k43 hk43 b1 b2 b3 w hm
      rw [X4_writeRow_L4] at hm
      refine x_iload_n E dX4_writeRow_4 rfl 2 rfl ?_
      refine x_bipush (v := (iI 30)) E dX4_writeRow_5 (by decide) ?_
      refine x_icmp_ge (tgt := 43) E dX4_writeRow_7 (by decide) hm (fun _ hm => ?_) (fun _ hm => ?_)
      · exact x_weak [0, 1, 2] rfl (hk43 b1 b2 w hm)
      · refine x_iload_n E dX4_writeRow_10 rfl 3 rfl ?_
        refine x_if_lt (tgt := 43) E dX4_writeRow_11 (by decide) hm (fun _ hm => ?_) (fun _ hm => ?_)
        · exact x_weak [0, 1, 2] rfl (hk43 b1 b2 w hm)
        · refine x_iload_n E dX4_writeRow_14 rfl 3 rfl ?_
          refine x_bipush (v := (iI 30)) E dX4_writeRow_15 (by decide) ?_
          refine x_icmp_ge (tgt := 43) E dX4_writeRow_17 (by decide) hm (fun _ hm => ?_) (fun _ hm => ?_)
          · exact x_weak [0, 1, 2] rfl (hk43 b1 b2 w hm)
          · refine x_aload_n E dX4_writeRow_20 rfl 0 rfl ?_
            refine x_gf (v := .ref (ad 10 2)) E fr_X4_15 rfl rfl dX4_writeRow_21 ?_
            refine x_iload_n E dX4_writeRow_24 rfl 3 rfl ?_
            refine x_iald E rfl rfl (by decide) dX4_writeRow_25 hm (fun x_1 hm => ?_)
            refine x_iconst (v := (iI (-1))) E dX4_writeRow_26 (by decide) ?_
            refine x_icmp_eq (tgt := 43) E dX4_writeRow_27 (by decide) hm (fun _ hm => ?_) (fun _ hm => ?_)
            · exact x_weak [0, 1, 2] rfl (hk43 b1 b2 w hm)
            · refine x_iincB (lv' := fun x_2 => [(2, .int x_2), (0, .ref (ad 10 0)), (1, .int b1), (3, .int b3)]) (j := 2) E dX4_writeRow_30 rfl rfl (by decide) (fun _ => rfl) hm (fun x_2 hm => ?_)
              refine x_aload_n E dX4_writeRow_33 rfl 1 rfl ?_
              refine x_gf (v := .ref (ad 10 2)) E fr_X4_15 rfl rfl dX4_writeRow_34 ?_
              refine x_iload_n E dX4_writeRow_37 rfl 3 rfl ?_
              refine x_iald E rfl rfl (by decide) dX4_writeRow_38 hm (fun x_3 hm => ?_)
              refine x_istore_n (lv' := [(3, .int x_3), (2, .int x_2), (0, .ref (ad 10 0)), (1, .int b1)]) E dX4_writeRow_39 rfl (by decide) rfl ?_
              refine x_goto (tgt := 4) E dX4_writeRow_40 (by decide) ?_
              exact x_weak [2, 3, 1, 0] rfl ((ih _ hk43) b1 x_2 x_3 w hm)
  have hL50 : ∀ (fuel : Nat) (b2 : Int32) (b3 : Int32) (b4 : Int32) (w : Wd), X4_writeRow_L50 fuel b2 b3 b4 w = some w' → XV p l e { frames := 0, cells := 0, slots := 0, locals := 0 } s m args below meth c 5 D cs ad (MQ below (xQ D cs ad none w') args s 0 0 (xF ad)) 50 [(0, .ref (ad 10 0)), (2, .int b2), (3, .int b3), (4, .int b4)] [] w := by
    intro fuel
    induction fuel with
    | zero => intro b2 b3 b4 w hm; cases hm
    | succ fuel ih =>
      intro b2 b3 b4 w hm
      rw [X4_writeRow_L50] at hm
      refine x_iload E dX4_writeRow_50 3 rfl ?_
      refine x_if_lt (tgt := 91) E dX4_writeRow_52 (by decide) hm (fun _ hm => ?_) (fun _ hm => ?_)
      · refine x_aload_n E dX4_writeRow_91 rfl 0 rfl ?_
        refine x_iload_n E dX4_writeRow_92 rfl 1 rfl ?_
        refine x_pf E fr_X4_34 rfl (by decide) rfl rfl dX4_writeRow_93 ?_
        refine x_bW hm (fun w_5 hm => ?_)
        exact x_vretS E hm dX4_writeRow_96
      · refine x_iload_n E dX4_writeRow_55 rfl 2 rfl ?_
        refine x_if_lt (tgt := 91) E dX4_writeRow_56 (by decide) hm (fun _ hm => ?_) (fun _ hm => ?_)
        · refine x_aload_n E dX4_writeRow_91 rfl 0 rfl ?_
          refine x_iload_n E dX4_writeRow_92 rfl 1 rfl ?_
          refine x_pf E fr_X4_34 rfl (by decide) rfl rfl dX4_writeRow_93 ?_
          refine x_bW hm (fun w_6 hm => ?_)
          exact x_vretS E hm dX4_writeRow_96
        · refine x_iload_n E dX4_writeRow_59 rfl 2 rfl ?_
          refine x_bipush (v := (iI 30)) E dX4_writeRow_60 (by decide) ?_
          refine x_icmp_ge (tgt := 91) E dX4_writeRow_62 (by decide) hm (fun _ hm => ?_) (fun _ hm => ?_)
          · refine x_aload_n E dX4_writeRow_91 rfl 0 rfl ?_
            refine x_iload_n E dX4_writeRow_92 rfl 1 rfl ?_
            refine x_pf E fr_X4_34 rfl (by decide) rfl rfl dX4_writeRow_93 ?_
            refine x_bW hm (fun w_7 hm => ?_)
            exact x_vretS E hm dX4_writeRow_96
          · refine x_aload_n E dX4_writeRow_65 rfl 0 rfl ?_
            refine x_gf (v := .ref (ad 10 4)) E fr_X4_21 rfl rfl dX4_writeRow_66 ?_
            refine x_iload E dX4_writeRow_69 3 rfl ?_
            refine x_aload_n E dX4_writeRow_71 rfl 0 rfl ?_
            refine x_gf (v := .ref (ad 10 3)) E fr_X4_18 rfl rfl dX4_writeRow_72 ?_
            refine x_iload_n E dX4_writeRow_75 rfl 2 rfl ?_
            refine x_iald E rfl rfl (by decide) dX4_writeRow_76 hm (fun x_8 hm => ?_)
            refine x_iast E rfl rfl (by decide) dX4_writeRow_77 hm (fun w_9 hm => ?_)
            refine x_aload_n E dX4_writeRow_78 rfl 0 rfl ?_
            refine x_gf (v := .ref (ad 10 2)) E fr_X4_15 rfl rfl dX4_writeRow_79 ?_
            refine x_iload_n E dX4_writeRow_82 rfl 2 rfl ?_
            refine x_iald E rfl rfl (by decide) dX4_writeRow_83 hm (fun x_10 hm => ?_)
            refine x_istore_n (lv' := [(3, .int x_10), (0, .ref (ad 10 0)), (2, .int b2), (4, .int b4)]) E dX4_writeRow_84 rfl (by decide) rfl ?_
            refine x_iincB (lv' := fun x_11 => [(4, .int x_11), (3, .int x_10), (0, .ref (ad 10 0)), (2, .int b2)]) (j := 3) E dX4_writeRow_85 rfl rfl (by decide) (fun _ => rfl) hm (fun x_11 hm => ?_)
            refine x_goto (tgt := 50) E dX4_writeRow_88 (by decide) ?_
            exact x_weak [2, 3, 1, 0] rfl ((ih) b2 x_10 x_11 w_9 hm)
  have hL43 : ∀ (b1 : Int32) (b2 : Int32) (w : Wd), X4_writeRow_L43 b1 b2 w = some w' → XV p l e { frames := 0, cells := 0, slots := 0, locals := 0 } s m args below meth c 5 D cs ad (MQ below (xQ D cs ad none w') args s 0 0 (xF ad)) 43 [(0, .ref (ad 10 0)), (1, .int b1), (2, .int b2)] [] w := by
    intro b1 b2 w hm
    unfold X4_writeRow_L43 at hm
    refine x_iload_n E dX4_writeRow_43 rfl 1 rfl ?_
    refine x_istore_n (lv' := [(3, .int b1), (0, .ref (ad 10 0)), (1, .int b1), (2, .int b2)]) E dX4_writeRow_44 rfl (by decide) rfl ?_
    refine x_iload_n E dX4_writeRow_45 rfl 3 rfl ?_
    refine x_iconst (v := (iI 1)) E dX4_writeRow_46 (by decide) ?_
    refine x_isub E dX4_writeRow_47 ?_
    refine x_bI hm (fun x_4 hm => ?_)
    refine x_istore (lv' := [(4, .int x_4), (3, .int b1), (0, .ref (ad 10 0)), (1, .int b1), (2, .int b2)]) E dX4_writeRow_48 (by decide) rfl ?_
    exact x_weak [2, 4, 1, 0] rfl ((hL50 1000) b2 b1 x_4 w hm)
  unfold X4_writeRow at hm
  refine x_iconst (v := (iI 0)) E dX4_writeRow_0 (by decide) ?_
  refine x_istore_n (lv' := [(2, .int (iI 0)), (0, .ref (ad 10 0)), (1, .int a1)]) E dX4_writeRow_1 rfl (by decide) rfl ?_
  refine x_iload_n E dX4_writeRow_2 rfl 2 rfl ?_
  refine x_istore_n (lv' := [(3, .int a1), (2, .int (iI 0)), (0, .ref (ad 10 0)), (1, .int a1)]) E dX4_writeRow_3 rfl (by decide) rfl ?_
  exact x_weak [2, 3, 1, 0] rfl ((hL4 1000 _ (hL43)) a1 (iI 0) a1 w hm)
set_option maxRecDepth 100000 in
set_option maxHeartbeats 4000000 in
theorem c_X4_search (l : Launch) (D : va_G) (cs : vCs) (ad : Nat → Nat → Nat) {w : Wd} {g1 : Nat} {g2 : Nat} (hg1 : kl g1 = 0) (hg2 : kl g2 = 0) {r : Int32} {w' : Wd} (hm : X4_search w g1 g2 = some (r, w')) : Mc l yX4_search cX4_search 5 (some .boolean) 3 80 D cs ad [.ref (ad 10 0), .ref (ad g1 0), .ref (ad g2 0)] w (some (.int r)) w' := by
  refine Mc.of (by decide) (Nat.le_of_ble_eq_true rfl) ?_
  intro p e s m args below meth c E
  replace E : EV p m c cX4_search 5 s args RX4 yX4_search (some .boolean) meth D cs ad := E
  have hL28 : ∀ (fuel : Nat) (b3 : Int32) (w : Wd), X4_search_L28 fuel g1 g2 b3 w = some (r, w') → XV p l e { frames := 3, cells := 0, slots := 0, locals := 80 } s m args below meth c 5 D cs ad (MQ below (xQ D cs ad (some (.int r)) w') args s 0 0 (xF ad)) 28 [(0, .ref (ad 10 0)), (1, .ref (ad g1 0)), (2, .ref (ad g2 0)), (3, .int b3)] [] w := by
    intro fuel
    induction fuel with
    | zero => intro b3 w hm; cases hm
    | succ fuel ih =>
      intro b3 w hm
      rw [X4_search_L28] at hm
      refine x_iload_n E dX4_search_28 rfl 3 rfl ?_
      refine x_aload_n E dX4_search_29 rfl 0 rfl ?_
      refine x_gf (v := .int (rd w 10 0 4)) E fr_X4_30 rfl rfl dX4_search_30 ?_
      refine x_icmp_ge (tgt := 80) E dX4_search_33 (by decide) hm (fun _ hm => ?_) (fun _ hm => ?_)
      · refine x_iconst (v := (iI 0)) E dX4_search_80 (by decide) ?_
        exact x_zretS E rfl hm dX4_search_81
      · refine x_iload_n E dX4_search_36 rfl 3 rfl ?_
        refine x_bipush (v := (iI 30)) E dX4_search_37 (by decide) ?_
        refine x_icmp_ge (tgt := 80) E dX4_search_39 (by decide) hm (fun _ hm => ?_) (fun _ hm => ?_)
        · refine x_iconst (v := (iI 0)) E dX4_search_80 (by decide) ?_
          exact x_zretS E rfl hm dX4_search_81
        · refine x_aload_n E dX4_search_42 rfl 0 rfl ?_
          refine x_gf (v := .ref (ad 10 1)) E fr_X4_11 rfl rfl dX4_search_43 ?_
          refine x_iload_n E dX4_search_46 rfl 3 rfl ?_
          refine x_iald E rfl rfl (by decide) dX4_search_47 hm (fun x_5 hm => ?_)
          refine x_istore (lv' := [(4, .int x_5), (0, .ref (ad 10 0)), (1, .ref (ad g1 0)), (2, .ref (ad g2 0)), (3, .int b3)]) E dX4_search_48 (by decide) rfl ?_
          refine x_iload E dX4_search_50 0 rfl ?_
          refine x_callS (As := [.int x_5]) (rest := []) E my_X4_parts wG597 (c_X4_parts l D cs ad rfl) rfl ⟨Nat.le_of_ble_eq_true rfl, Nat.le_of_ble_eq_true rfl⟩ (Nat.le_of_ble_eq_true rfl) dX4_search_52 ?_
          refine x_if_eq (tgt := 66) E dX4_search_55 (by decide) hm (fun _ hm => ?_) (fun _ hm => ?_)
          · refine x_aload_n E dX4_search_66 rfl 1 rfl ?_
            refine x_iload E dX4_search_67 0 rfl ?_
            refine x_aload_n E dX4_search_69 rfl 2 rfl ?_
            refine x_aload_n E dX4_search_70 rfl 3 rfl ?_
            obtain ⟨w_6, hc, hm⟩ := ob_inv hm
            refine x_callV (As := [.int x_5, .ref (ad g1 0), .ref (ad g2 0)]) (rest := []) E my_X4_expand wG604 (c_X4_expand l D cs ad hg1 hg2 hc) rfl rfl rfl ⟨Nat.le_of_ble_eq_true rfl, Nat.le_of_ble_eq_true rfl⟩ (Nat.le_of_ble_eq_true rfl) dX4_search_71 ?_
            refine x_iincB (lv' := fun x_7 => [(3, .int x_7), (4, .int x_5), (0, .ref (ad 10 0)), (1, .ref (ad g1 0)), (2, .ref (ad g2 0))]) (j := 4) E dX4_search_74 rfl rfl (by decide) (fun _ => rfl) hm (fun x_7 hm => ?_)
            refine x_goto (tgt := 28) E dX4_search_77 (by decide) ?_
            exact x_weak [2, 3, 4, 0] rfl ((ih) x_7 w_6 hm)
          · refine x_aload_n E dX4_search_58 rfl 1 rfl ?_
            refine x_iload E dX4_search_59 0 rfl ?_
            obtain ⟨w_8, hc, hm⟩ := ob_inv hm
            refine x_callV (As := [.int x_5]) (rest := []) E my_X4_writeRow wG600 (c_X4_writeRow l D cs ad hc) rfl rfl rfl ⟨Nat.le_of_ble_eq_true rfl, Nat.le_of_ble_eq_true rfl⟩ (Nat.le_of_ble_eq_true rfl) dX4_search_61 ?_
            refine x_iconst (v := (iI 1)) E dX4_search_64 (by decide) ?_
            exact x_zretS E rfl hm dX4_search_65
  unfold X4_search at hm
  refine x_aload_n E dX4_search_0 rfl 0 rfl ?_
  refine x_gf (v := .ref (ad 10 2)) E fr_X4_15 rfl rfl dX4_search_1 ?_
  refine x_bipush (v := (iI (-2))) E dX4_search_4 (by decide) ?_
  refine x_callS (As := [.ref (ad 10 2), .int (iI (-2))]) (rest := []) E my_fill wG592 (c_fill l D cs ad rfl rfl (by decide) (by decide)) rfl ⟨Nat.le_of_ble_eq_true rfl, Nat.le_of_ble_eq_true rfl⟩ (Nat.le_of_ble_eq_true rfl) dX4_search_6 ?_
  refine x_bW hm (fun w_1 hm => ?_)
  refine x_aload_n E dX4_search_9 rfl 0 rfl ?_
  refine x_iconst (v := (iI 0)) E dX4_search_10 (by decide) ?_
  refine x_pf E fr_X4_30 rfl (by decide) rfl rfl dX4_search_11 ?_
  refine x_bW hm (fun w_2 hm => ?_)
  refine x_aload_n E dX4_search_14 rfl 0 rfl ?_
  refine x_iconst (v := (iI 0)) E dX4_search_15 (by decide) ?_
  refine x_pf E fr_X4_34 rfl (by decide) rfl rfl dX4_search_16 ?_
  refine x_bW hm (fun w_3 hm => ?_)
  refine x_aload_n E dX4_search_19 rfl 0 rfl ?_
  refine x_iconst (v := (iI 0)) E dX4_search_20 (by decide) ?_
  refine x_iconst (v := (iI (-1))) E dX4_search_21 (by decide) ?_
  refine x_iconst (v := (iI 0)) E dX4_search_22 (by decide) ?_
  obtain ⟨w_4, hc, hm⟩ := ob_inv hm
  refine x_callV (As := [.int (iI 0), .int (iI (-1)), .int (iI 0)]) (rest := []) E my_X4_reach wG593 (c_X4_reach l D cs ad hc) rfl rfl rfl ⟨Nat.le_of_ble_eq_true rfl, Nat.le_of_ble_eq_true rfl⟩ (Nat.le_of_ble_eq_true rfl) dX4_search_23 ?_
  refine x_iconst (v := (iI 0)) E dX4_search_26 (by decide) ?_
  refine x_istore_n (lv' := [(3, .int (iI 0)), (0, .ref (ad 10 0)), (1, .ref (ad g1 0)), (2, .ref (ad g2 0))]) E dX4_search_27 rfl (by decide) rfl ?_
  exact x_weak [1, 2, 3, 0] rfl ((hL28 1000) (iI 0) w_4 hm)
set_option maxRecDepth 100000 in
set_option maxHeartbeats 4000000 in
theorem c_X5_allowedUnits (l : Launch) (D : va_G) (cs : vCs) (ad : Nat → Nat → Nat) {w : Wd} {g : Nat} (hg : kl g = 4) {r : Int32} (hm : X5_allowedUnits w g = r) : Mc l yX5_allowedUnits cX5_allowedUnits 1 (some .int) 0 0 D cs ad [.ref (ad g 0)] w (some (.int r)) w := by
  refine Mc.of (by decide) (Nat.le_of_ble_eq_true rfl) ?_
  intro p e s m args below meth c E
  replace E : EV p m c cX5_allowedUnits 1 s args RX5 yX5_allowedUnits (some .int) meth D cs ad := E
  unfold X5_allowedUnits at hm
  refine x_aload_n E dX5_allowedUnits_0 rfl 0 rfl ?_
  refine x_gf (v := .int (rd w g 0 5)) E fr_X5_35 hg rfl dX5_allowedUnits_1 ?_
  exact x_iretT E hm dX5_allowedUnits_4
set_option maxRecDepth 100000 in
set_option maxHeartbeats 4000000 in
theorem c_X6_isSortPair (l : Launch) (D : va_G) (cs : vCs) (ad : Nat → Nat → Nat) {w : Wd} {a0 : Int32} {r : Int32} (hm : X6_isSortPair a0 = r) : Mc l yX6_isSortPair cX6_isSortPair 1 (some .boolean) 0 0 D cs ad [.int a0] w (some (.int r)) w := by
  refine Mc.of (by decide) (Nat.le_of_ble_eq_true rfl) ?_
  intro p e s m args below meth c E
  replace E : EV p m c cX6_isSortPair 1 s args RX6 yX6_isSortPair (some .boolean) meth D cs ad := E
  unfold X6_isSortPair at hm
  refine x_iload_n E dX6_isSortPair_0 rfl 0 rfl ?_
  refine x_if_lt (tgt := 13) E dX6_isSortPair_1 (by decide) hm (fun _ hm => ?_) (fun _ hm => ?_)
  · refine x_iconst (v := (iI 0)) E dX6_isSortPair_13 (by decide) ?_
    exact x_zretT E rfl hm dX6_isSortPair_14
  · refine x_iload_n E dX6_isSortPair_4 rfl 0 rfl ?_
    refine x_iconst (v := (iI 4)) E dX6_isSortPair_5 (by decide) ?_
    refine x_icmp_ge (tgt := 13) E dX6_isSortPair_6 (by decide) hm (fun _ hm => ?_) (fun _ hm => ?_)
    · refine x_iconst (v := (iI 0)) E dX6_isSortPair_13 (by decide) ?_
      exact x_zretT E rfl hm dX6_isSortPair_14
    · refine x_iconst (v := (iI 1)) E dX6_isSortPair_9 (by decide) ?_
      refine x_goto (tgt := 14) E dX6_isSortPair_10 (by decide) ?_
      exact x_zretT E rfl hm dX6_isSortPair_14
set_option maxRecDepth 100000 in
set_option maxHeartbeats 4000000 in
theorem c_X5_countPair (l : Launch) (D : va_G) (cs : vCs) (ad : Nat → Nat → Nat) {w : Wd} {g : Nat} {a1 : Int32} {a2 : Int32} (hg : kl g = 4) {w' : Wd} (hm : X5_countPair w g a1 a2 = some w') : Mc l yX5_countPair cX5_countPair 4 none 1 21 D cs ad [.ref (ad g 0), .int a1, .int a2] w none w' := by
  refine Mc.of (by decide) (Nat.le_of_ble_eq_true rfl) ?_
  intro p e s m args below meth c E
  replace E : EV p m c cX5_countPair 4 s args RX5 yX5_countPair none meth D cs ad := E
  unfold X5_countPair at hm
  refine x_iload_n E dX5_countPair_0 rfl 1 rfl ?_
  refine x_if_eq (tgt := 27) E dX5_countPair_1 (by decide) hm (fun _ hm => ?_) (fun _ hm => ?_)
  · exact x_vretS E hm dX5_countPair_27
  · refine x_iload_n E dX5_countPair_4 rfl 1 rfl ?_
    refine x_iload_n E dX5_countPair_5 rfl 2 rfl ?_
    refine x_callS (As := [.int a1, .int a2]) (rest := []) E my_X0_sortPair wG382 (c_X0_sortPair l D cs ad rfl) rfl ⟨Nat.le_of_ble_eq_true rfl, Nat.le_of_ble_eq_true rfl⟩ (Nat.le_of_ble_eq_true rfl) dX5_countPair_6 ?_
    refine x_bI hm (fun x_1 hm => ?_)
    refine x_istore_n (lv' := [(3, .int x_1), (0, .ref (ad g 0)), (1, .int a1), (2, .int a2)]) E dX5_countPair_9 rfl (by decide) rfl ?_
    refine x_iload_n E dX5_countPair_10 rfl 0 rfl ?_
    refine x_callSN (As := [.int x_1]) (rest := []) E my_X6_isSortPair E.2.1.2.2.1.1 (c_X6_isSortPair l D cs ad rfl) rfl ⟨Nat.le_of_ble_eq_true rfl, Nat.le_of_ble_eq_true rfl⟩ (Nat.le_of_ble_eq_true rfl) dX5_countPair_11 ?_
    refine x_if_eq (tgt := 27) E dX5_countPair_14 (by decide) hm (fun _ hm => ?_) (fun _ hm => ?_)
    · exact x_vretS E hm dX5_countPair_27
    · refine x_aload_n E dX5_countPair_17 rfl 1 rfl ?_
      refine x_gf (v := .ref (ad g 3)) E fr_X5_18 hg rfl dX5_countPair_18 ?_
      refine x_iload_n E dX5_countPair_21 rfl 0 rfl ?_
      refine x_dup2 E dX5_countPair_22 rfl rfl ?_
      refine x_iald E hg rfl (by decide) dX5_countPair_23 hm (fun x_2 hm => ?_)
      refine x_iconst (v := (iI 1)) E dX5_countPair_24 (by decide) ?_
      refine x_iadd E dX5_countPair_25 ?_
      refine x_iast E hg rfl (by decide) dX5_countPair_26 hm (fun w_3 hm => ?_)
      exact x_vretS E hm dX5_countPair_27
set_option maxRecDepth 100000 in
set_option maxHeartbeats 4000000 in
theorem c_X5_take (l : Launch) (D : va_G) (cs : vCs) (ad : Nat → Nat → Nat) {w : Wd} {g : Nat} {a1 : Int32} {a2 : Int32} (hg : kl g = 4) {w' : Wd} (hm : X5_take w g a1 a2 = some w') : Mc l yX5_take cX5_take 7 none 2 45 D cs ad [.ref (ad g 0), .int a1, .int a2] w none w' := by
  refine Mc.of (by decide) (Nat.le_of_ble_eq_true rfl) ?_
  intro p e s m args below meth c E
  replace E : EV p m c cX5_take 7 s args RX5 yX5_take none meth D cs ad := E
  have hL67 : ∀ (b1 : Int32) (b2 : Int32) (b3 : Int32) (b4 : Int32) (w : Wd), X5_take_L67 g b1 b2 b3 b4 w = some w' → XV p l e { frames := 2, cells := 0, slots := 0, locals := 45 } s m args below meth c 7 D cs ad (MQ below (xQ D cs ad none w') args s 0 0 (xF ad)) 67 [(0, .ref (ad g 0)), (1, .int b1), (2, .int b2), (3, .int b3), (4, .int b4)] [] w := by
    intro b1 b2 b3 b4 w hm
    unfold X5_take_L67 at hm
    refine x_aload_n E dX5_take_67 rfl 0 rfl ?_
    refine x_gf (v := .ref (ad g 1)) E fr_X5_9 hg rfl dX5_take_68 ?_
    refine x_iload_n E dX5_take_71 rfl 1 rfl ?_
    refine x_iconst (v := (iI 1)) E dX5_take_72 (by decide) ?_
    refine x_iadd E dX5_take_73 ?_
    refine x_iload E dX5_take_74 4 rfl ?_
    refine x_iast E hg rfl (by decide) dX5_take_76 hm (fun w_7 hm => ?_)
    refine x_aload_n E dX5_take_77 rfl 0 rfl ?_
    refine x_gf (v := .ref (ad g 2)) E fr_X5_15 hg rfl dX5_take_78 ?_
    refine x_iload_n E dX5_take_81 rfl 1 rfl ?_
    refine x_iconst (v := (iI 1)) E dX5_take_82 (by decide) ?_
    refine x_iadd E dX5_take_83 ?_
    refine x_aload_n E dX5_take_84 rfl 0 rfl ?_
    refine x_gf (v := .ref (ad g 2)) E fr_X5_15 hg rfl dX5_take_85 ?_
    refine x_iload_n E dX5_take_88 rfl 1 rfl ?_
    refine x_iald E hg rfl (by decide) dX5_take_89 hm (fun x_8 hm => ?_)
    refine x_aload_n E dX5_take_90 rfl 0 rfl ?_
    refine x_gf (v := .ref (ad (g - 4) 0)) E fr_X5_21 hg rfl dX5_take_91 ?_
    refine x_iload_n E dX5_take_94 rfl 3 rfl ?_
    refine x_iload_n E dX5_take_95 rfl 2 rfl ?_
    obtain ⟨r_9, hc, hm⟩ := ob_inv hm
    refine x_callV (As := [.int b3, .int b2]) (rest := [.int x_8, .int (b1 + (iI 1)), .ref (ad g 2)]) E my_X0_gain wG386 (c_X0_gain l D cs ad (kl_rc hg) hc) (kl_rc hg) rfl rfl ⟨Nat.le_of_ble_eq_true rfl, Nat.le_of_ble_eq_true rfl⟩ (Nat.le_of_ble_eq_true rfl) dX5_take_96 ?_
    refine x_iadd E dX5_take_99 ?_
    refine x_iast E hg rfl (by decide) dX5_take_100 hm (fun w_10 hm => ?_)
    refine x_aload_n E dX5_take_101 rfl 0 rfl ?_
    refine x_iload_n E dX5_take_102 rfl 1 rfl ?_
    refine x_iconst (v := (iI 1)) E dX5_take_103 (by decide) ?_
    refine x_iadd E dX5_take_104 ?_
    refine x_pf E fr_X5_35 hg (by decide) rfl rfl dX5_take_105 ?_
    refine x_bW hm (fun w_11 hm => ?_)
    exact x_vretS E hm dX5_take_108
  unfold X5_take at hm
  refine x_aload_n E dX5_take_0 rfl 0 rfl ?_
  refine x_gf (v := .ref (ad g 1)) E fr_X5_9 hg rfl dX5_take_1 ?_
  refine x_iload_n E dX5_take_4 rfl 1 rfl ?_
  refine x_iald E hg rfl (by decide) dX5_take_5 hm (fun x_1 hm => ?_)
  refine x_istore_n (lv' := [(3, .int x_1), (0, .ref (ad g 0)), (1, .int a1), (2, .int a2)]) E dX5_take_6 rfl (by decide) rfl ?_
  refine x_aload_n E dX5_take_7 rfl 1 rfl ?_
  refine x_gf (v := .ref (ad (g - 4) 0)) E fr_X5_21 hg rfl dX5_take_8 ?_
  refine x_iload_n E dX5_take_11 rfl 0 rfl ?_
  refine x_iload_n E dX5_take_12 rfl 3 rfl ?_
  obtain ⟨r_2, hc, hm⟩ := ob_inv hm
  refine x_callV (As := [.int x_1, .int a2]) (rest := []) E my_X0_nextState wG363 (c_X0_nextState l D cs ad (kl_rc hg) hc) (kl_rc hg) rfl rfl ⟨Nat.le_of_ble_eq_true rfl, Nat.le_of_ble_eq_true rfl⟩ (Nat.le_of_ble_eq_true rfl) dX5_take_13 ?_
  refine x_istore (lv' := [(4, .int r_2), (3, .int x_1), (0, .ref (ad g 0)), (1, .int a1), (2, .int a2)]) E dX5_take_16 (by decide) rfl ?_
  refine x_iload E dX5_take_18 0 rfl ?_
  refine x_iconst (v := (iI (-1))) E dX5_take_20 (by decide) ?_
  refine x_icmp_ne (tgt := 25) E dX5_take_21 (by decide) hm (fun _ hm => ?_) (fun _ hm => ?_)
  · refine x_iload_n E dX5_take_25 rfl 1 rfl ?_
    refine x_iconst (v := (iI 3)) E dX5_take_26 (by decide) ?_
    refine x_irem E dX5_take_27 (by decide) ?_
    refine x_bI hm (fun x_3 hm => ?_)
    refine x_istore (lv' := [(5, .int x_3), (4, .int r_2), (3, .int x_1), (0, .ref (ad g 0)), (1, .int a1), (2, .int a2)]) E dX5_take_28 (by decide) rfl ?_
    refine x_aload_n E dX5_take_30 rfl 3 rfl ?_
    refine x_gf (v := .ref (ad (g - 4) 0)) E fr_X5_21 hg rfl dX5_take_31 ?_
    refine x_iload_n E dX5_take_34 rfl 2 rfl ?_
    refine x_callS (As := [.int x_1]) (rest := [.ref (ad (g - 4) 0)]) E my_X0_modeOf wG367 (c_X0_modeOf l D cs ad rfl) rfl ⟨Nat.le_of_ble_eq_true rfl, Nat.le_of_ble_eq_true rfl⟩ (Nat.le_of_ble_eq_true rfl) dX5_take_35 ?_
    refine x_iload_n E dX5_take_38 rfl 5 rfl ?_
    obtain ⟨r_4, hc, hm⟩ := ob_inv hm
    refine x_callV (As := [.int (X0_modeOf x_1), .int a2]) (rest := []) E my_X0_sortEnded wG370 (c_X0_sortEnded l D cs ad (kl_rc hg) hc) (kl_rc hg) rfl rfl ⟨Nat.le_of_ble_eq_true rfl, Nat.le_of_ble_eq_true rfl⟩ (Nat.le_of_ble_eq_true rfl) dX5_take_39 ?_
    refine x_istore (lv' := [(6, .int r_4), (5, .int x_3), (4, .int r_2), (3, .int x_1), (0, .ref (ad g 0)), (1, .int a1), (2, .int a2)]) E dX5_take_42 (by decide) rfl ?_
    refine x_iload E dX5_take_44 0 rfl ?_
    refine x_if_eq (tgt := 67) E dX5_take_46 (by decide) hm (fun _ hm => ?_) (fun _ hm => ?_)
    · exact x_weak [4, 5, 6, 3, 2] rfl ((hL67) a1 a2 x_1 r_2 w hm)
    · refine x_aload_n E dX5_take_49 rfl 4 rfl ?_
      refine x_dup E dX5_take_50 rfl ?_
      refine x_gf (v := .int (rd w g 0 4)) E fr_X5_31 hg rfl dX5_take_51 ?_
      refine x_iconst (v := (iI 1)) E dX5_take_54 (by decide) ?_
      refine x_iadd E dX5_take_55 ?_
      refine x_pf E fr_X5_31 hg (by decide) rfl rfl dX5_take_56 ?_
      refine x_bW hm (fun w_5 hm => ?_)
      refine x_aload_n E dX5_take_59 rfl 4 rfl ?_
      refine x_iload E dX5_take_60 1 rfl ?_
      refine x_iload E dX5_take_62 0 rfl ?_
      obtain ⟨w_6, hc, hm⟩ := ob_inv hm
      refine x_callV (As := [.int x_3, .int r_4]) (rest := []) E my_X5_countPair wG378 (c_X5_countPair l D cs ad hg hc) hg rfl rfl ⟨Nat.le_of_ble_eq_true rfl, Nat.le_of_ble_eq_true rfl⟩ (Nat.le_of_ble_eq_true rfl) dX5_take_64 ?_
      exact x_weak [4, 5, 6, 3, 2] rfl ((hL67) a1 a2 x_1 r_2 w_6 hm)
  · exact x_vretS E hm dX5_take_24
set_option maxRecDepth 100000 in
set_option maxHeartbeats 4000000 in
theorem c_X5_follow (l : Launch) (D : va_G) (cs : vCs) (ad : Nat → Nat → Nat) {w : Wd} {g : Nat} {a2 : Int32} (hg : kl g = 4) {w' : Wd} (hm : X5_follow w g a2 = some w') : Mc l yX5_follow cX5_follow 5 none 3 80 D cs ad [.ref (ad g 0), .ref (ad 0 2), .int a2] w none w' := by
  refine Mc.of (by decide) (Nat.le_of_ble_eq_true rfl) ?_
  intro p e s m args below meth c E
  replace E : EV p m c cX5_follow 5 s args RX5 yX5_follow none meth D cs ad := E
  have hL47 : ∀ (fuel : Nat) (k78 : Int32 → Wd → Option Wd) (hk78 : ∀ (b3 : Int32) (w : Wd), k78 b3 w = some w' → XV p l e { frames := 3, cells := 0, slots := 0, locals := 80 } s m args below meth c 5 D cs ad (MQ below (xQ D cs ad none w') args s 0 0 (xF ad)) 78 [(0, .ref (ad g 0)), (3, .int b3)] [] w) (b3 : Int32) (b4 : Int32) (w : Wd), X5_follow_L47 fuel k78 g b3 b4 w = some w' → XV p l e { frames := 3, cells := 0, slots := 0, locals := 80 } s m args below meth c 5 D cs ad (MQ below (xQ D cs ad none w') args s 0 0 (xF ad)) 47 [(0, .ref (ad g 0)), (1, .ref (ad 0 2)), (3, .int b3), (4, .int b4)] [] w := by
    intro fuel
    induction fuel with
    | zero => intro k78 hk78 b3 b4 w hm; cases hm
    | succ fuel ih =>
      intro k78 hk78 b3 b4 w hm
      rw [X5_follow_L47] at hm
      refine x_iload E dX5_follow_47 3 rfl ?_
      refine x_iload_n E dX5_follow_49 rfl 2 rfl ?_
      refine x_icmp_ge (tgt := 78) E dX5_follow_50 (by decide) hm (fun _ hm => ?_) (fun _ hm => ?_)
      · exact x_weak [0, 2] rfl (hk78 b3 w hm)
      · refine x_aload_n E dX5_follow_53 rfl 0 rfl ?_
        refine x_gf (v := .int (rd w g 0 5)) E fr_X5_35 hg rfl dX5_follow_54 ?_
        refine x_iload E dX5_follow_57 3 rfl ?_
        refine x_icmp_ne (tgt := 78) E dX5_follow_59 (by decide) hm (fun _ hm => ?_) (fun _ hm => ?_)
        · exact x_weak [0, 2] rfl (hk78 b3 w hm)
        · refine x_aload_n E dX5_follow_62 rfl 0 rfl ?_
          refine x_iload E dX5_follow_63 3 rfl ?_
          refine x_aload_n E dX5_follow_65 rfl 1 rfl ?_
          refine x_iload E dX5_follow_66 3 rfl ?_
          refine x_iald E rfl rfl (by decide) dX5_follow_68 hm (fun x_7 hm => ?_)
          obtain ⟨w_8, hc, hm⟩ := ob_inv hm
          refine x_callV (As := [.int b4, .int x_7]) (rest := []) E my_X5_take wG359 (c_X5_take l D cs ad hg hc) hg rfl rfl ⟨Nat.le_of_ble_eq_true rfl, Nat.le_of_ble_eq_true rfl⟩ (Nat.le_of_ble_eq_true rfl) dX5_follow_69 ?_
          refine x_iincB (lv' := fun x_9 => [(4, .int x_9), (0, .ref (ad g 0)), (1, .ref (ad 0 2)), (3, .int b3)]) (j := 3) E dX5_follow_72 rfl rfl (by decide) (fun _ => rfl) hm (fun x_9 hm => ?_)
          refine x_goto (tgt := 47) E dX5_follow_75 (by decide) ?_
          exact x_weak [1, 2, 3, 0] rfl ((ih _ hk78) b3 x_9 w_8 hm)
  have hL78 : ∀ (b3 : Int32) (w : Wd), X5_follow_L78 g b3 w = some w' → XV p l e { frames := 3, cells := 0, slots := 0, locals := 80 } s m args below meth c 5 D cs ad (MQ below (xQ D cs ad none w') args s 0 0 (xF ad)) 78 [(0, .ref (ad g 0)), (3, .int b3)] [] w := by
    intro b3 w hm
    unfold X5_follow_L78 at hm
    refine x_aload_n E dX5_follow_78 rfl 0 rfl ?_
    refine x_aload_n E dX5_follow_79 rfl 0 rfl ?_
    refine x_gf (v := .int (rd w g 0 5)) E fr_X5_35 hg rfl dX5_follow_80 ?_
    refine x_iload_n E dX5_follow_83 rfl 1 rfl ?_
    refine x_icmp_ne (tgt := 91) E dX5_follow_84 (by decide) hm (fun _ hm => ?_) (fun _ hm => ?_)
    · refine x_iconst (v := (iI 0)) E dX5_follow_91 (by decide) ?_
      refine x_pf E fr_X5_48 hg (by decide) rfl (by decide) dX5_follow_92 ?_
      refine x_bW hm (fun w_10 hm => ?_)
      exact x_vretS E hm dX5_follow_95
    · refine x_iconst (v := (iI 1)) E dX5_follow_87 (by decide) ?_
      refine x_goto (tgt := 92) E dX5_follow_88 (by decide) ?_
      refine x_pf E fr_X5_48 hg (by decide) rfl (by decide) dX5_follow_92 ?_
      refine x_bW hm (fun w_11 hm => ?_)
      exact x_vretS E hm dX5_follow_95
  unfold X5_follow at hm
  refine x_aload_n E dX5_follow_0 rfl 0 rfl ?_
  refine x_gf (v := .ref (ad g 3)) E fr_X5_18 hg rfl dX5_follow_1 ?_
  refine x_iconst (v := (iI 0)) E dX5_follow_4 (by decide) ?_
  refine x_callS (As := [.ref (ad g 3), .int (iI 0)]) (rest := []) E my_fill wG355 (c_fill l D cs ad hg rfl (by decide) (by decide)) rfl ⟨Nat.le_of_ble_eq_true rfl, Nat.le_of_ble_eq_true rfl⟩ (Nat.le_of_ble_eq_true rfl) dX5_follow_5 ?_
  refine x_bW hm (fun w_1 hm => ?_)
  refine x_aload_n E dX5_follow_8 rfl 0 rfl ?_
  refine x_gf (v := .ref (ad g 1)) E fr_X5_9 hg rfl dX5_follow_9 ?_
  refine x_iconst (v := (iI 0)) E dX5_follow_12 (by decide) ?_
  refine x_iconst (v := (iI 0)) E dX5_follow_13 (by decide) ?_
  refine x_iast E hg rfl (by decide) dX5_follow_14 hm (fun w_2 hm => ?_)
  refine x_aload_n E dX5_follow_15 rfl 0 rfl ?_
  refine x_gf (v := .ref (ad g 2)) E fr_X5_15 hg rfl dX5_follow_16 ?_
  refine x_iconst (v := (iI 0)) E dX5_follow_19 (by decide) ?_
  refine x_iconst (v := (iI 0)) E dX5_follow_20 (by decide) ?_
  refine x_iast E hg rfl (by decide) dX5_follow_21 hm (fun w_3 hm => ?_)
  refine x_aload_n E dX5_follow_22 rfl 0 rfl ?_
  refine x_iconst (v := (iI 0)) E dX5_follow_23 (by decide) ?_
  refine x_pf E fr_X5_31 hg (by decide) rfl rfl dX5_follow_24 ?_
  refine x_bW hm (fun w_4 hm => ?_)
  refine x_aload_n E dX5_follow_27 rfl 0 rfl ?_
  refine x_iconst (v := (iI 0)) E dX5_follow_28 (by decide) ?_
  refine x_pf E fr_X5_35 hg (by decide) rfl rfl dX5_follow_29 ?_
  refine x_bW hm (fun w_5 hm => ?_)
  refine x_iload_n E dX5_follow_32 rfl 2 rfl ?_
  refine x_aload_n E dX5_follow_33 rfl 1 rfl ?_
  refine x_alen (v := (iI 40)) E rfl rfl (by decide) (by decide) dX5_follow_34 ?_
  refine x_mmin E wG358 wG315 wG89 wG316 (Nat.le_of_ble_eq_true rfl) (Nat.le_of_ble_eq_true rfl) dX5_follow_35 ?_
  refine x_bipush (v := (iI 40)) E dX5_follow_38 (by decide) ?_
  refine x_mmin E wG358 wG315 wG89 wG316 (Nat.le_of_ble_eq_true rfl) (Nat.le_of_ble_eq_true rfl) dX5_follow_40 ?_
  refine x_bI hm (fun x_6 hm => ?_)
  refine x_istore_n (lv' := [(3, .int x_6), (0, .ref (ad g 0)), (1, .ref (ad 0 2)), (2, .int a2)]) E dX5_follow_43 rfl (by decide) rfl ?_
  refine x_iconst (v := (iI 0)) E dX5_follow_44 (by decide) ?_
  refine x_istore (lv' := [(4, .int (iI 0)), (3, .int x_6), (0, .ref (ad g 0)), (1, .ref (ad 0 2)), (2, .int a2)]) E dX5_follow_45 (by decide) rfl ?_
  exact x_weak [2, 3, 1, 0] rfl ((hL47 1000 _ (hL78)) x_6 (iI 0) w_5 hm)

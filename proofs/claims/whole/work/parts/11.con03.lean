set_option maxRecDepth 100000 in
set_option maxHeartbeats 4000000 in
theorem c_X6_drop (l : Launch) (D : va_G) (cs : vCs) (ad : Nat → Nat → Nat) {w : Wd} {r : Int32} {w' : Wd} (hm : X6_drop w = some (r, w')) : Mc l yX6_drop cX6_drop 1 (some .int) 0 0 D cs ad [.ref (ad 0 0)] w (some (.int r)) w' := by
  refine Mc.of (by decide) (Nat.le_of_ble_eq_true rfl) ?_
  intro p e s m args below meth c E
  replace E : EV p m c cX6_drop 1 s args RX6 yX6_drop (some .int) meth D cs ad := E
  unfold X6_drop at hm
  refine x_aload_n E dX6_drop_0 rfl 0 rfl ?_
  refine x_gf (v := .int (rd w 0 0 7)) E fr_X6_42 rfl rfl dX6_drop_1 ?_
  refine x_if_gt (tgt := 10) E dX6_drop_4 (by decide) hm (fun _ hm => ?_) (fun _ hm => ?_)
  · refine x_aload_n E dX6_drop_10 rfl 0 rfl ?_
    refine x_dup E dX6_drop_11 rfl ?_
    refine x_gf (v := .int (rd w 0 0 7)) E fr_X6_42 rfl rfl dX6_drop_12 ?_
    refine x_iconst (v := (iI 1)) E dX6_drop_15 (by decide) ?_
    refine x_isub E dX6_drop_16 ?_
    refine x_pf E fr_X6_42 rfl (by decide) rfl rfl dX6_drop_17 ?_
    refine x_bW hm (fun w_1 hm => ?_)
    refine x_aload_n E dX6_drop_20 rfl 0 rfl ?_
    refine x_gf (v := .int (rd w_1 0 0 7)) E fr_X6_42 rfl rfl dX6_drop_21 ?_
    exact x_iretS E hm dX6_drop_24
  · refine x_bipush (v := (iI (-103))) E dX6_drop_7 (by decide) ?_
    exact x_iretS E hm dX6_drop_9
set_option maxRecDepth 100000 in
set_option maxHeartbeats 4000000 in
theorem c_X6_fault (l : Launch) (D : va_G) (cs : vCs) (ad : Nat → Nat → Nat) {w : Wd} {r : Int32} (hm : X6_fault w = some r) : Mc l yX6_fault cX6_fault 1 (some .int) 5 105 D cs ad [.ref (ad 0 0)] w (some (.int r)) w := by
  refine Mc.of (by decide) (Nat.le_of_ble_eq_true rfl) ?_
  intro p e s m args below meth c E
  replace E : EV p m c cX6_fault 1 s args RX6 yX6_fault (some .int) meth D cs ad := E
  unfold X6_fault at hm
  refine x_aload_n E dX6_fault_0 rfl 0 rfl ?_
  refine x_gf (v := .ref (ad 0 1)) E fr_X6_9 rfl rfl dX6_fault_1 ?_
  refine x_aload_n E dX6_fault_4 rfl 0 rfl ?_
  refine x_gf (v := .int (rd w 0 0 1)) E fr_X6_13 rfl rfl dX6_fault_5 ?_
  obtain ⟨r_1, hc, hm⟩ := ob_inv hm
  refine x_callS (As := [.ref (ad 0 1), .int (rd w 0 0 1)]) (rest := []) E my_X2_firstFault wG281 (c_X2_firstFault l D cs ad hc) rfl ⟨Nat.le_of_ble_eq_true rfl, Nat.le_of_ble_eq_true rfl⟩ (Nat.le_of_ble_eq_true rfl) dX6_fault_8 ?_
  exact x_iretP E hm dX6_fault_11
set_option maxRecDepth 100000 in
set_option maxHeartbeats 4000000 in
theorem c_X6_isUnit (l : Launch) (D : va_G) (cs : vCs) (ad : Nat → Nat → Nat) {w : Wd} {a0 : Int32} {r : Int32} (hm : X6_isUnit a0 = r) : Mc l yX6_isUnit cX6_isUnit 1 (some .boolean) 0 0 D cs ad [.int a0] w (some (.int r)) w := by
  refine Mc.of (by decide) (Nat.le_of_ble_eq_true rfl) ?_
  intro p e s m args below meth c E
  replace E : EV p m c cX6_isUnit 1 s args RX6 yX6_isUnit (some .boolean) meth D cs ad := E
  unfold X6_isUnit at hm
  refine x_iload_n E dX6_isUnit_0 rfl 0 rfl ?_
  refine x_if_lt (tgt := 14) E dX6_isUnit_1 (by decide) hm (fun _ hm => ?_) (fun _ hm => ?_)
  · refine x_iconst (v := (iI 0)) E dX6_isUnit_14 (by decide) ?_
    exact x_zretT E rfl hm dX6_isUnit_15
  · refine x_iload_n E dX6_isUnit_4 rfl 0 rfl ?_
    refine x_bipush (v := (iI 8)) E dX6_isUnit_5 (by decide) ?_
    refine x_icmp_ge (tgt := 14) E dX6_isUnit_7 (by decide) hm (fun _ hm => ?_) (fun _ hm => ?_)
    · refine x_iconst (v := (iI 0)) E dX6_isUnit_14 (by decide) ?_
      exact x_zretT E rfl hm dX6_isUnit_15
    · refine x_iconst (v := (iI 1)) E dX6_isUnit_10 (by decide) ?_
      refine x_goto (tgt := 15) E dX6_isUnit_11 (by decide) ?_
      exact x_zretT E rfl hm dX6_isUnit_15
set_option maxRecDepth 100000 in
set_option maxHeartbeats 4000000 in
theorem c_X6_letCome (l : Launch) (D : va_G) (cs : vCs) (ad : Nat → Nat → Nat) {w : Wd} {a1 : Int32} {w' : Wd} (hm : X6_letCome w a1 = some w') : Mc l yX6_letCome cX6_letCome 2 none 0 0 D cs ad [.ref (ad 0 0), .int a1] w none w' := by
  refine Mc.of (by decide) (Nat.le_of_ble_eq_true rfl) ?_
  intro p e s m args below meth c E
  replace E : EV p m c cX6_letCome 2 s args RX6 yX6_letCome none meth D cs ad := E
  unfold X6_letCome at hm
  refine x_aload_n E dX6_letCome_0 rfl 0 rfl ?_
  refine x_gf (v := .int (rd w 0 0 3)) E fr_X6_20 rfl rfl dX6_letCome_1 ?_
  refine x_aload_n E dX6_letCome_4 rfl 0 rfl ?_
  refine x_gf (v := .ref (ad 0 2)) E fr_X6_17 rfl rfl dX6_letCome_5 ?_
  refine x_alen (v := (iI 40)) E rfl rfl (by decide) (by decide) dX6_letCome_8 ?_
  refine x_icmp_ge (tgt := 42) E dX6_letCome_9 (by decide) hm (fun _ hm => ?_) (fun _ hm => ?_)
  · exact x_vretS E hm dX6_letCome_42
  · refine x_aload_n E dX6_letCome_12 rfl 0 rfl ?_
    refine x_gf (v := .ref (ad 0 2)) E fr_X6_17 rfl rfl dX6_letCome_13 ?_
    refine x_aload_n E dX6_letCome_16 rfl 0 rfl ?_
    refine x_gf (v := .int (rd w 0 0 3)) E fr_X6_20 rfl rfl dX6_letCome_17 ?_
    refine x_iload_n E dX6_letCome_20 rfl 1 rfl ?_
    refine x_iast E rfl rfl (by decide) dX6_letCome_21 hm (fun w_1 hm => ?_)
    refine x_aload_n E dX6_letCome_22 rfl 0 rfl ?_
    refine x_dup E dX6_letCome_23 rfl ?_
    refine x_gf (v := .int (rd w_1 0 0 3)) E fr_X6_20 rfl rfl dX6_letCome_24 ?_
    refine x_iconst (v := (iI 1)) E dX6_letCome_27 (by decide) ?_
    refine x_iadd E dX6_letCome_28 ?_
    refine x_pf E fr_X6_20 rfl (by decide) rfl rfl dX6_letCome_29 ?_
    refine x_bW hm (fun w_2 hm => ?_)
    refine x_aload_n E dX6_letCome_32 rfl 0 rfl ?_
    refine x_dup E dX6_letCome_33 rfl ?_
    refine x_gf (v := .int (rd w_2 0 0 9)) E fr_X6_48 rfl rfl dX6_letCome_34 ?_
    refine x_iconst (v := (iI 1)) E dX6_letCome_37 (by decide) ?_
    refine x_iadd E dX6_letCome_38 ?_
    refine x_pf E fr_X6_48 rfl (by decide) rfl rfl dX6_letCome_39 ?_
    refine x_bW hm (fun w_3 hm => ?_)
    exact x_vretS E hm dX6_letCome_42
set_option maxRecDepth 100000 in
set_option maxHeartbeats 4000000 in
theorem c_X6_feed (l : Launch) (D : va_G) (cs : vCs) (ad : Nat → Nat → Nat) {w : Wd} {a1 : Int32} {r : Int32} {w' : Wd} (hm : X6_feed w a1 = some (r, w')) : Mc l yX6_feed cX6_feed 2 (some .int) 5 125 D cs ad [.ref (ad 0 0), .int a1] w (some (.int r)) w' := by
  refine Mc.of (by decide) (Nat.le_of_ble_eq_true rfl) ?_
  intro p e s m args below meth c E
  replace E : EV p m c cX6_feed 2 s args RX6 yX6_feed (some .int) meth D cs ad := E
  unfold X6_feed at hm
  refine x_iload_n E dX6_feed_0 rfl 1 rfl ?_
  refine x_callS (As := [.int a1]) (rest := []) E my_X6_isUnit wG422 (c_X6_isUnit l D cs ad rfl) rfl ⟨Nat.le_of_ble_eq_true rfl, Nat.le_of_ble_eq_true rfl⟩ (Nat.le_of_ble_eq_true rfl) dX6_feed_1 ?_
  refine x_if_ne (tgt := 10) E dX6_feed_4 (by decide) hm (fun _ hm => ?_) (fun _ hm => ?_)
  · refine x_aload_n E dX6_feed_10 rfl 0 rfl ?_
    refine x_gf (v := .int (rd w 0 0 3)) E fr_X6_20 rfl rfl dX6_feed_11 ?_
    refine x_aload_n E dX6_feed_14 rfl 0 rfl ?_
    refine x_gf (v := .int (rd w 0 0 4)) E fr_X6_23 rfl rfl dX6_feed_15 ?_
    refine x_icmp_lt (tgt := 24) E dX6_feed_18 (by decide) hm (fun _ hm => ?_) (fun _ hm => ?_)
    · refine x_aload_n E dX6_feed_24 rfl 0 rfl ?_
      refine x_iload_n E dX6_feed_25 rfl 1 rfl ?_
      obtain ⟨w_1, hc, hm⟩ := ob_inv hm
      refine x_callV (As := [.int a1]) (rest := []) E my_X6_letCome wG425 (c_X6_letCome l D cs ad hc) rfl rfl rfl ⟨Nat.le_of_ble_eq_true rfl, Nat.le_of_ble_eq_true rfl⟩ (Nat.le_of_ble_eq_true rfl) dX6_feed_26 ?_
      refine x_aload_n E dX6_feed_29 rfl 0 rfl ?_
      obtain ⟨w_2, hc, hm⟩ := ob_inv hm
      refine x_callV (As := []) (rest := []) E my_X6_readAgain wG414 (c_X6_readAgain l D cs ad hc) rfl rfl rfl ⟨Nat.le_of_ble_eq_true rfl, Nat.le_of_ble_eq_true rfl⟩ (Nat.le_of_ble_eq_true rfl) dX6_feed_30 ?_
      refine x_aload_n E dX6_feed_33 rfl 0 rfl ?_
      refine x_gf (v := .int (rd w_2 0 0 3)) E fr_X6_20 rfl rfl dX6_feed_34 ?_
      exact x_iretS E hm dX6_feed_37
    · refine x_bipush (v := (iI (-104))) E dX6_feed_21 (by decide) ?_
      exact x_iretS E hm dX6_feed_23
  · refine x_bipush (v := (iI (-102))) E dX6_feed_7 (by decide) ?_
    exact x_iretS E hm dX6_feed_9
set_option maxRecDepth 100000 in
set_option maxHeartbeats 4000000 in
theorem c_X6_feeds (l : Launch) (D : va_G) (cs : vCs) (ad : Nat → Nat → Nat) {w : Wd} {r : Int32} {w' : Wd} (hm : X6_feeds w = some (r, w')) : Mc l yX6_feeds cX6_feeds 2 (some .int) 5 125 D cs ad [.ref (ad 0 0)] w (some (.int r)) w' := by
  refine Mc.of (by decide) (Nat.le_of_ble_eq_true rfl) ?_
  intro p e s m args below meth c E
  replace E : EV p m c cX6_feeds 2 s args RX6 yX6_feeds (some .int) meth D cs ad := E
  have hL2 : ∀ (fuel : Nat) (k34 : Wd → Option (Int32 × Wd)) (hk34 : ∀ (w : Wd), k34 w = some (r, w') → XV p l e { frames := 5, cells := 0, slots := 0, locals := 125 } s m args below meth c 2 D cs ad (MQ below (xQ D cs ad (some (.int r)) w') args s 0 0 (xF ad)) 34 [(0, .ref (ad 0 0))] [] w) (b1 : Int32) (w : Wd), X6_feeds_L2 fuel k34 b1 w = some (r, w') → XV p l e { frames := 5, cells := 0, slots := 0, locals := 125 } s m args below meth c 2 D cs ad (MQ below (xQ D cs ad (some (.int r)) w') args s 0 0 (xF ad)) 2 [(0, .ref (ad 0 0)), (1, .int b1)] [] w := by
    intro fuel
    induction fuel with
    | zero => intro k34 hk34 b1 w hm; cases hm
    | succ fuel ih =>
      intro k34 hk34 b1 w hm
      rw [X6_feeds_L2] at hm
      refine x_iload_n E dX6_feeds_2 rfl 1 rfl ?_
      refine x_aload_n E dX6_feeds_3 rfl 0 rfl ?_
      refine x_gf (v := .int (rd w 0 0 1)) E fr_X6_13 rfl rfl dX6_feeds_4 ?_
      refine x_icmp_ge (tgt := 34) E dX6_feeds_7 (by decide) hm (fun _ hm => ?_) (fun _ hm => ?_)
      · exact x_weak [0] rfl (hk34 w hm)
      · refine x_aload_n E dX6_feeds_10 rfl 0 rfl ?_
        refine x_gf (v := .ref (ad 0 1)) E fr_X6_9 rfl rfl dX6_feeds_11 ?_
        refine x_iload_n E dX6_feeds_14 rfl 1 rfl ?_
        refine x_iald E rfl rfl (by decide) dX6_feeds_15 hm (fun x_1 hm => ?_)
        refine x_bipush (v := (iI 48)) E dX6_feeds_16 (by decide) ?_
        refine x_isub E dX6_feeds_18 ?_
        refine x_callS (As := [.int (x_1 - (iI 48))]) (rest := []) E my_X6_isUnit wG422 (c_X6_isUnit l D cs ad rfl) rfl ⟨Nat.le_of_ble_eq_true rfl, Nat.le_of_ble_eq_true rfl⟩ (Nat.le_of_ble_eq_true rfl) dX6_feeds_19 ?_
        refine x_if_ne (tgt := 28) E dX6_feeds_22 (by decide) hm (fun _ hm => ?_) (fun _ hm => ?_)
        · refine x_iincB (lv' := fun x_2 => [(1, .int x_2), (0, .ref (ad 0 0))]) (j := 1) E dX6_feeds_28 rfl rfl (by decide) (fun _ => rfl) hm (fun x_2 hm => ?_)
          refine x_goto (tgt := 2) E dX6_feeds_31 (by decide) ?_
          exact x_weak [1, 0] rfl ((ih _ hk34) x_2 w hm)
        · refine x_bipush (v := (iI (-103))) E dX6_feeds_25 (by decide) ?_
          exact x_iretS E hm dX6_feeds_27
  have hL55 : ∀ (fuel : Nat) (k82 : Wd → Option (Int32 × Wd)) (hk82 : ∀ (w : Wd), k82 w = some (r, w') → XV p l e { frames := 5, cells := 0, slots := 0, locals := 125 } s m args below meth c 2 D cs ad (MQ below (xQ D cs ad (some (.int r)) w') args s 0 0 (xF ad)) 82 [(0, .ref (ad 0 0))] [] w) (b1 : Int32) (w : Wd), X6_feeds_L55 fuel k82 b1 w = some (r, w') → XV p l e { frames := 5, cells := 0, slots := 0, locals := 125 } s m args below meth c 2 D cs ad (MQ below (xQ D cs ad (some (.int r)) w') args s 0 0 (xF ad)) 55 [(0, .ref (ad 0 0)), (1, .int b1)] [] w := by
    intro fuel
    induction fuel with
    | zero => intro k82 hk82 b1 w hm; cases hm
    | succ fuel ih =>
      intro k82 hk82 b1 w hm
      rw [X6_feeds_L55] at hm
      refine x_iload_n E dX6_feeds_55 rfl 1 rfl ?_
      refine x_aload_n E dX6_feeds_56 rfl 0 rfl ?_
      refine x_gf (v := .int (rd w 0 0 1)) E fr_X6_13 rfl rfl dX6_feeds_57 ?_
      refine x_icmp_ge (tgt := 82) E dX6_feeds_60 (by decide) hm (fun _ hm => ?_) (fun _ hm => ?_)
      · exact x_weak [0] rfl (hk82 w hm)
      · refine x_aload_n E dX6_feeds_63 rfl 0 rfl ?_
        refine x_aload_n E dX6_feeds_64 rfl 0 rfl ?_
        refine x_gf (v := .ref (ad 0 1)) E fr_X6_9 rfl rfl dX6_feeds_65 ?_
        refine x_iload_n E dX6_feeds_68 rfl 1 rfl ?_
        refine x_iald E rfl rfl (by decide) dX6_feeds_69 hm (fun x_3 hm => ?_)
        refine x_bipush (v := (iI 48)) E dX6_feeds_70 (by decide) ?_
        refine x_isub E dX6_feeds_72 ?_
        obtain ⟨w_4, hc, hm⟩ := ob_inv hm
        refine x_callV (As := [.int (x_3 - (iI 48))]) (rest := []) E my_X6_letCome wG425 (c_X6_letCome l D cs ad hc) rfl rfl rfl ⟨Nat.le_of_ble_eq_true rfl, Nat.le_of_ble_eq_true rfl⟩ (Nat.le_of_ble_eq_true rfl) dX6_feeds_73 ?_
        refine x_iincB (lv' := fun x_5 => [(1, .int x_5), (0, .ref (ad 0 0))]) (j := 1) E dX6_feeds_76 rfl rfl (by decide) (fun _ => rfl) hm (fun x_5 hm => ?_)
        refine x_goto (tgt := 55) E dX6_feeds_79 (by decide) ?_
        exact x_weak [1, 0] rfl ((ih _ hk82) x_5 w_4 hm)
  have hL82 : ∀ (w : Wd), X6_feeds_L82 w = some (r, w') → XV p l e { frames := 5, cells := 0, slots := 0, locals := 125 } s m args below meth c 2 D cs ad (MQ below (xQ D cs ad (some (.int r)) w') args s 0 0 (xF ad)) 82 [(0, .ref (ad 0 0))] [] w := by
    intro w hm
    unfold X6_feeds_L82 at hm
    refine x_aload_n E dX6_feeds_82 rfl 0 rfl ?_
    refine x_iconst (v := (iI 0)) E dX6_feeds_83 (by decide) ?_
    refine x_pf E fr_X6_13 rfl (by decide) rfl rfl dX6_feeds_84 ?_
    refine x_bW hm (fun w_6 hm => ?_)
    refine x_aload_n E dX6_feeds_87 rfl 0 rfl ?_
    obtain ⟨w_7, hc, hm⟩ := ob_inv hm
    refine x_callV (As := []) (rest := []) E my_X6_readAgain wG414 (c_X6_readAgain l D cs ad hc) rfl rfl rfl ⟨Nat.le_of_ble_eq_true rfl, Nat.le_of_ble_eq_true rfl⟩ (Nat.le_of_ble_eq_true rfl) dX6_feeds_88 ?_
    refine x_aload_n E dX6_feeds_91 rfl 0 rfl ?_
    refine x_gf (v := .int (rd w_7 0 0 3)) E fr_X6_20 rfl rfl dX6_feeds_92 ?_
    exact x_iretS E hm dX6_feeds_95
  have hL34 : ∀ (w : Wd), X6_feeds_L34 w = some (r, w') → XV p l e { frames := 5, cells := 0, slots := 0, locals := 125 } s m args below meth c 2 D cs ad (MQ below (xQ D cs ad (some (.int r)) w') args s 0 0 (xF ad)) 34 [(0, .ref (ad 0 0))] [] w := by
    intro w hm
    unfold X6_feeds_L34 at hm
    refine x_aload_n E dX6_feeds_34 rfl 0 rfl ?_
    refine x_gf (v := .int (rd w 0 0 1)) E fr_X6_13 rfl rfl dX6_feeds_35 ?_
    refine x_aload_n E dX6_feeds_38 rfl 0 rfl ?_
    refine x_gf (v := .int (rd w 0 0 4)) E fr_X6_23 rfl rfl dX6_feeds_39 ?_
    refine x_aload_n E dX6_feeds_42 rfl 0 rfl ?_
    refine x_gf (v := .int (rd w 0 0 3)) E fr_X6_20 rfl rfl dX6_feeds_43 ?_
    refine x_isub E dX6_feeds_46 ?_
    refine x_icmp_le (tgt := 53) E dX6_feeds_47 (by decide) hm (fun _ hm => ?_) (fun _ hm => ?_)
    · refine x_iconst (v := (iI 0)) E dX6_feeds_53 (by decide) ?_
      refine x_istore_n (lv' := [(1, .int (iI 0)), (0, .ref (ad 0 0))]) E dX6_feeds_54 rfl (by decide) rfl ?_
      exact x_weak [1, 0] rfl ((hL55 1000 _ (hL82)) (iI 0) w hm)
    · refine x_bipush (v := (iI (-104))) E dX6_feeds_50 (by decide) ?_
      exact x_iretS E hm dX6_feeds_52
  unfold X6_feeds at hm
  refine x_iconst (v := (iI 0)) E dX6_feeds_0 (by decide) ?_
  refine x_istore_n (lv' := [(1, .int (iI 0)), (0, .ref (ad 0 0))]) E dX6_feeds_1 rfl (by decide) rfl ?_
  exact x_weak [1, 0] rfl ((hL2 1000 _ (hL34)) (iI 0) w hm)
set_option maxRecDepth 100000 in
set_option maxHeartbeats 4000000 in
theorem c_X6_letter (l : Launch) (D : va_G) (cs : vCs) (ad : Nat → Nat → Nat) {w : Wd} {a1 : Int32} {r : Int32} {w' : Wd} (hm : X6_letter w a1 = some (r, w')) : Mc l yX6_letter cX6_letter 2 (some .int) 0 0 D cs ad [.ref (ad 0 0), .int a1] w (some (.int r)) w' := by
  refine Mc.of (by decide) (Nat.le_of_ble_eq_true rfl) ?_
  intro p e s m args below meth c E
  replace E : EV p m c cX6_letter 2 s args RX6 yX6_letter (some .int) meth D cs ad := E
  unfold X6_letter at hm
  refine x_iload_n E dX6_letter_0 rfl 1 rfl ?_
  refine x_bipush (v := (iI 32)) E dX6_letter_1 (by decide) ?_
  refine x_icmp_lt (tgt := 12) E dX6_letter_3 (by decide) hm (fun _ hm => ?_) (fun _ hm => ?_)
  · refine x_bipush (v := (iI (-102))) E dX6_letter_12 (by decide) ?_
    exact x_iretS E hm dX6_letter_14
  · refine x_iload_n E dX6_letter_6 rfl 1 rfl ?_
    refine x_bipush (v := (iI 126)) E dX6_letter_7 (by decide) ?_
    refine x_icmp_le (tgt := 15) E dX6_letter_9 (by decide) hm (fun _ hm => ?_) (fun _ hm => ?_)
    · refine x_aload_n E dX6_letter_15 rfl 0 rfl ?_
      refine x_gf (v := .int (rd w 0 0 1)) E fr_X6_13 rfl rfl dX6_letter_16 ?_
      refine x_bipush (v := (iI 40)) E dX6_letter_19 (by decide) ?_
      refine x_icmp_lt (tgt := 27) E dX6_letter_21 (by decide) hm (fun _ hm => ?_) (fun _ hm => ?_)
      · refine x_aload_n E dX6_letter_27 rfl 0 rfl ?_
        refine x_gf (v := .ref (ad 0 1)) E fr_X6_9 rfl rfl dX6_letter_28 ?_
        refine x_aload_n E dX6_letter_31 rfl 0 rfl ?_
        refine x_gf (v := .int (rd w 0 0 1)) E fr_X6_13 rfl rfl dX6_letter_32 ?_
        refine x_iload_n E dX6_letter_35 rfl 1 rfl ?_
        refine x_iast E rfl rfl (by decide) dX6_letter_36 hm (fun w_1 hm => ?_)
        refine x_aload_n E dX6_letter_37 rfl 0 rfl ?_
        refine x_dup E dX6_letter_38 rfl ?_
        refine x_gf (v := .int (rd w_1 0 0 1)) E fr_X6_13 rfl rfl dX6_letter_39 ?_
        refine x_iconst (v := (iI 1)) E dX6_letter_42 (by decide) ?_
        refine x_iadd E dX6_letter_43 ?_
        refine x_pf E fr_X6_13 rfl (by decide) rfl rfl dX6_letter_44 ?_
        refine x_bW hm (fun w_2 hm => ?_)
        refine x_aload_n E dX6_letter_47 rfl 0 rfl ?_
        refine x_gf (v := .int (rd w_2 0 0 1)) E fr_X6_13 rfl rfl dX6_letter_48 ?_
        exact x_iretS E hm dX6_letter_51
      · refine x_bipush (v := (iI (-104))) E dX6_letter_24 (by decide) ?_
        exact x_iretS E hm dX6_letter_26
    · refine x_bipush (v := (iI (-102))) E dX6_letter_12 (by decide) ?_
      exact x_iretS E hm dX6_letter_14
set_option maxRecDepth 100000 in
set_option maxHeartbeats 4000000 in
theorem c_X6_open (l : Launch) (D : va_G) (cs : vCs) (ad : Nat → Nat → Nat) {w : Wd} {a1 : Int32} {r : Int32} {w' : Wd} (hm : X6_open w a1 = some (r, w')) : Mc l yX6_open cX6_open 3 (some .int) 5 125 D cs ad [.ref (ad 0 0), .int a1] w (some (.int r)) w' := by
  refine Mc.of (by decide) (Nat.le_of_ble_eq_true rfl) ?_
  intro p e s m args below meth c E
  replace E : EV p m c cX6_open 3 s args RX6 yX6_open (some .int) meth D cs ad := E
  unfold X6_open at hm
  refine x_iload_n E dX6_open_0 rfl 1 rfl ?_
  refine x_iconst (v := (iI 1)) E dX6_open_1 (by decide) ?_
  refine x_icmp_lt (tgt := 11) E dX6_open_2 (by decide) hm (fun _ hm => ?_) (fun _ hm => ?_)
  · refine x_bipush (v := (iI (-102))) E dX6_open_11 (by decide) ?_
    exact x_iretS E hm dX6_open_13
  · refine x_iload_n E dX6_open_5 rfl 1 rfl ?_
    refine x_bipush (v := (iI 40)) E dX6_open_6 (by decide) ?_
    refine x_icmp_le (tgt := 14) E dX6_open_8 (by decide) hm (fun _ hm => ?_) (fun _ hm => ?_)
    · refine x_aload_n E dX6_open_14 rfl 0 rfl ?_
      refine x_gf (v := .int (rd w 0 0 3)) E fr_X6_20 rfl rfl dX6_open_15 ?_
      refine x_bI hm (fun x_1 hm => ?_)
      refine x_istore_n (lv' := [(2, .int x_1), (0, .ref (ad 0 0)), (1, .int a1)]) E dX6_open_18 rfl (by decide) rfl ?_
      refine x_aload_n E dX6_open_19 rfl 1 rfl ?_
      refine x_iload_n E dX6_open_20 rfl 2 rfl ?_
      refine x_pf E fr_X6_23 rfl (by decide) rfl rfl dX6_open_21 ?_
      refine x_bW hm (fun w_2 hm => ?_)
      refine x_aload_n E dX6_open_24 rfl 1 rfl ?_
      refine x_iconst (v := (iI 0)) E dX6_open_25 (by decide) ?_
      refine x_pf E fr_X6_20 rfl (by decide) rfl rfl dX6_open_26 ?_
      refine x_bW hm (fun w_3 hm => ?_)
      refine x_aload_n E dX6_open_29 rfl 1 rfl ?_
      obtain ⟨w_4, hc, hm⟩ := ob_inv hm
      refine x_callV (As := []) (rest := []) E my_X6_readAgain wG414 (c_X6_readAgain l D cs ad hc) rfl rfl rfl ⟨Nat.le_of_ble_eq_true rfl, Nat.le_of_ble_eq_true rfl⟩ (Nat.le_of_ble_eq_true rfl) dX6_open_30 ?_
      refine x_iload_n E dX6_open_33 rfl 0 rfl ?_
      exact x_iretS E hm dX6_open_34
    · refine x_bipush (v := (iI (-102))) E dX6_open_11 (by decide) ?_
      exact x_iretS E hm dX6_open_13
set_option maxRecDepth 100000 in
set_option maxHeartbeats 4000000 in
theorem c_X6_piece (l : Launch) (D : va_G) (cs : vCs) (ad : Nat → Nat → Nat) {w : Wd} {a1 : Int32} {a2 : Int32} {r : Int32} {w' : Wd} (hm : X6_piece w a1 a2 = some (r, w')) : Mc l yX6_piece cX6_piece 3 (some .int) 4 107 D cs ad [.ref (ad 0 0), .int a1, .int a2] w (some (.int r)) w' := by
  refine Mc.of (by decide) (Nat.le_of_ble_eq_true rfl) ?_
  intro p e s m args below meth c E
  replace E : EV p m c cX6_piece 3 s args RX6 yX6_piece (some .int) meth D cs ad := E
  unfold X6_piece at hm
  refine x_aload_n E dX6_piece_0 rfl 0 rfl ?_
  refine x_gf (v := .ref (ad 11 0)) E fr_X6_68 rfl rfl dX6_piece_1 ?_
  refine x_aload_n E dX6_piece_4 rfl 0 rfl ?_
  refine x_gf (v := .ref (ad 0 3)) E fr_X6_28 rfl rfl dX6_piece_5 ?_
  refine x_aload_n E dX6_piece_8 rfl 0 rfl ?_
  refine x_gf (v := .int (rd w 0 0 7)) E fr_X6_42 rfl rfl dX6_piece_9 ?_
  refine x_aload_n E dX6_piece_12 rfl 0 rfl ?_
  refine x_gf (v := .ref (ad 0 2)) E fr_X6_17 rfl rfl dX6_piece_13 ?_
  refine x_aload_n E dX6_piece_16 rfl 0 rfl ?_
  refine x_gf (v := .int (rd w 0 0 3)) E fr_X6_20 rfl rfl dX6_piece_17 ?_
  obtain ⟨r_1, w_2, hc, hm⟩ := bI_inv hm
  refine x_callV (As := [.ref (ad 0 3), .int (rd w 0 0 7), .ref (ad 0 2), .int (rd w 0 0 3)]) (rest := []) E my_X1_divide wG625 (c_X1_divide l D cs ad hc) rfl rfl rfl ⟨Nat.le_of_ble_eq_true rfl, Nat.le_of_ble_eq_true rfl⟩ (Nat.le_of_ble_eq_true rfl) dX6_piece_20 ?_
  refine x_if_ne (tgt := 29) E dX6_piece_23 (by decide) hm (fun _ hm => ?_) (fun _ hm => ?_)
  · refine x_iload_n E dX6_piece_29 rfl 1 rfl ?_
    refine x_if_lt (tgt := 44) E dX6_piece_30 (by decide) hm (fun _ hm => ?_) (fun _ hm => ?_)
    · refine x_bipush (v := (iI (-101))) E dX6_piece_44 (by decide) ?_
      exact x_iretS E hm dX6_piece_46
    · refine x_iload_n E dX6_piece_33 rfl 1 rfl ?_
      refine x_aload_n E dX6_piece_34 rfl 0 rfl ?_
      refine x_gf (v := .ref (ad 11 0)) E fr_X6_68 rfl rfl dX6_piece_35 ?_
      obtain ⟨r_3, hc, hm⟩ := ob_inv hm
      refine x_callV (As := []) (rest := [.int a1]) E my_X1_pieceCount wG649 (c_X1_pieceCount l D cs ad hc) rfl rfl rfl ⟨Nat.le_of_ble_eq_true rfl, Nat.le_of_ble_eq_true rfl⟩ (Nat.le_of_ble_eq_true rfl) dX6_piece_38 ?_
      refine x_icmp_lt (tgt := 47) E dX6_piece_41 (by decide) hm (fun _ hm => ?_) (fun _ hm => ?_)
      · refine x_iload_n E dX6_piece_47 rfl 2 rfl ?_
        refine x_if_lt (tgt := 56) E dX6_piece_48 (by decide) hm (fun _ hm => ?_) (fun _ hm => ?_)
        · refine x_bipush (v := (iI (-102))) E dX6_piece_56 (by decide) ?_
          exact x_iretS E hm dX6_piece_58
        · refine x_iload_n E dX6_piece_51 rfl 2 rfl ?_
          refine x_iconst (v := (iI 2)) E dX6_piece_52 (by decide) ?_
          refine x_icmp_le (tgt := 59) E dX6_piece_53 (by decide) hm (fun _ hm => ?_) (fun _ hm => ?_)
          · refine x_aload_n E dX6_piece_59 rfl 0 rfl ?_
            refine x_gf (v := .ref (ad 11 0)) E fr_X6_68 rfl rfl dX6_piece_60 ?_
            refine x_iload_n E dX6_piece_63 rfl 1 rfl ?_
            refine x_iload_n E dX6_piece_64 rfl 2 rfl ?_
            obtain ⟨r_4, hc, hm⟩ := ob_inv hm
            refine x_callV (As := [.int a1, .int a2]) (rest := []) E my_X1_propertyOf wG657 (c_X1_propertyOf l D cs ad hc) rfl rfl rfl ⟨Nat.le_of_ble_eq_true rfl, Nat.le_of_ble_eq_true rfl⟩ (Nat.le_of_ble_eq_true rfl) dX6_piece_65 ?_
            exact x_iretS E hm dX6_piece_68
          · refine x_bipush (v := (iI (-102))) E dX6_piece_56 (by decide) ?_
            exact x_iretS E hm dX6_piece_58
      · refine x_bipush (v := (iI (-101))) E dX6_piece_44 (by decide) ?_
        exact x_iretS E hm dX6_piece_46
  · refine x_bipush (v := (iI (-101))) E dX6_piece_26 (by decide) ?_
    exact x_iretS E hm dX6_piece_28
set_option maxRecDepth 100000 in
set_option maxHeartbeats 4000000 in
theorem c_X6_points (l : Launch) (D : va_G) (cs : vCs) (ad : Nat → Nat → Nat) {w : Wd} {a1 : Int32} {a2 : Int32} {r : Int32} (hm : X6_points w a1 a2 = some r) : Mc l yX6_points cX6_points 3 (some .int) 3 62 D cs ad [.ref (ad 0 0), .int a1, .int a2] w (some (.int r)) w := by
  refine Mc.of (by decide) (Nat.le_of_ble_eq_true rfl) ?_
  intro p e s m args below meth c E
  replace E : EV p m c cX6_points 3 s args RX6 yX6_points (some .int) meth D cs ad := E
  unfold X6_points at hm
  refine x_aload_n E dX6_points_0 rfl 0 rfl ?_
  refine x_iload_n E dX6_points_1 rfl 1 rfl ?_
  refine x_callV (As := [.int a1]) (rest := []) E my_X6_isCode wG398 (c_X6_isCode l D cs ad rfl) rfl rfl rfl ⟨Nat.le_of_ble_eq_true rfl, Nat.le_of_ble_eq_true rfl⟩ (Nat.le_of_ble_eq_true rfl) dX6_points_2 ?_
  refine x_if_ne (tgt := 11) E dX6_points_5 (by decide) hm (fun _ hm => ?_) (fun _ hm => ?_)
  · refine x_iload_n E dX6_points_11 rfl 2 rfl ?_
    refine x_callS (As := [.int a2]) (rest := []) E my_X6_isSortPair wG550 (c_X6_isSortPair l D cs ad rfl) rfl ⟨Nat.le_of_ble_eq_true rfl, Nat.le_of_ble_eq_true rfl⟩ (Nat.le_of_ble_eq_true rfl) dX6_points_12 ?_
    refine x_if_ne (tgt := 21) E dX6_points_15 (by decide) hm (fun _ hm => ?_) (fun _ hm => ?_)
    · refine x_aload_n E dX6_points_21 rfl 0 rfl ?_
      refine x_gf (v := .ref (ad 0 3)) E fr_X6_28 rfl rfl dX6_points_22 ?_
      refine x_iload_n E dX6_points_25 rfl 1 rfl ?_
      refine x_aaldC E dX6_points_26 hm (fun n_1 hn_1 hm => ?_)
      refine x_iload_n E dX6_points_27 rfl 2 rfl ?_
      obtain ⟨r_2, hc, hm⟩ := ob_inv hm
      refine x_callV (As := [.int a2]) (rest := []) E my_X0_pointsOf wG551 (c_X0_pointsOf l D cs ad hn_1 hc) hn_1 rfl rfl ⟨Nat.le_of_ble_eq_true rfl, Nat.le_of_ble_eq_true rfl⟩ (Nat.le_of_ble_eq_true rfl) dX6_points_28 ?_
      exact x_iretP E hm dX6_points_31
    · refine x_bipush (v := (iI (-102))) E dX6_points_18 (by decide) ?_
      exact x_iretP E hm dX6_points_20
  · refine x_bipush (v := (iI (-101))) E dX6_points_8 (by decide) ?_
    exact x_iretP E hm dX6_points_10
set_option maxRecDepth 100000 in
set_option maxHeartbeats 4000000 in
theorem c_X6_tells (l : Launch) (D : va_G) (cs : vCs) (ad : Nat → Nat → Nat) {w : Wd} {a1 : Int32} {a2 : Int32} {a3 : Int32} {r : Int32} {w' : Wd} (hm : X6_tells w a1 a2 a3 = some (r, w')) : Mc l yX6_tells cX6_tells 4 (some .int) 4 104 D cs ad [.ref (ad 0 0), .int a1, .int a2, .int a3] w (some (.int r)) w' := by
  refine Mc.of (by decide) (Nat.le_of_ble_eq_true rfl) ?_
  intro p e s m args below meth c E
  replace E : EV p m c cX6_tells 4 s args RX6 yX6_tells (some .int) meth D cs ad := E
  unfold X6_tells at hm
  refine x_aload_n E dX6_tells_0 rfl 0 rfl ?_
  refine x_iload_n E dX6_tells_1 rfl 1 rfl ?_
  refine x_callV (As := [.int a1]) (rest := []) E my_X6_isCode wG398 (c_X6_isCode l D cs ad rfl) rfl rfl rfl ⟨Nat.le_of_ble_eq_true rfl, Nat.le_of_ble_eq_true rfl⟩ (Nat.le_of_ble_eq_true rfl) dX6_tells_2 ?_
  refine x_if_eq (tgt := 38) E dX6_tells_5 (by decide) hm (fun _ hm => ?_) (fun _ hm => ?_)
  · refine x_bipush (v := (iI (-101))) E dX6_tells_38 (by decide) ?_
    exact x_iretS E hm dX6_tells_40
  · refine x_aload_n E dX6_tells_8 rfl 0 rfl ?_
    refine x_iload_n E dX6_tells_9 rfl 2 rfl ?_
    refine x_callV (As := [.int a2]) (rest := []) E my_X6_isCode wG398 (c_X6_isCode l D cs ad rfl) rfl rfl rfl ⟨Nat.le_of_ble_eq_true rfl, Nat.le_of_ble_eq_true rfl⟩ (Nat.le_of_ble_eq_true rfl) dX6_tells_10 ?_
    refine x_if_eq (tgt := 38) E dX6_tells_13 (by decide) hm (fun _ hm => ?_) (fun _ hm => ?_)
    · refine x_bipush (v := (iI (-101))) E dX6_tells_38 (by decide) ?_
      exact x_iretS E hm dX6_tells_40
    · refine x_aload_n E dX6_tells_16 rfl 0 rfl ?_
      refine x_gf (v := .ref (ad 10 0)) E fr_X6_61 rfl rfl dX6_tells_17 ?_
      refine x_aload_n E dX6_tells_20 rfl 0 rfl ?_
      refine x_gf (v := .ref (ad 0 3)) E fr_X6_28 rfl rfl dX6_tells_21 ?_
      refine x_iload_n E dX6_tells_24 rfl 1 rfl ?_
      refine x_aaldC E dX6_tells_25 hm (fun n_1 hn_1 hm => ?_)
      refine x_aload_n E dX6_tells_26 rfl 0 rfl ?_
      refine x_gf (v := .ref (ad 0 3)) E fr_X6_28 rfl rfl dX6_tells_27 ?_
      refine x_iload_n E dX6_tells_30 rfl 2 rfl ?_
      refine x_aaldC E dX6_tells_31 hm (fun n_2 hn_2 hm => ?_)
      obtain ⟨r_3, w_4, hc, hm⟩ := bI_inv hm
      refine x_callV (As := [.ref (ad (n_1 + 1) 0), .ref (ad (n_2 + 1) 0)]) (rest := []) E my_X4_search wG588 (c_X4_search l D cs ad hn_1 hn_2 hc) rfl rfl rfl ⟨Nat.le_of_ble_eq_true rfl, Nat.le_of_ble_eq_true rfl⟩ (Nat.le_of_ble_eq_true rfl) dX6_tells_32 ?_
      refine x_if_ne (tgt := 41) E dX6_tells_35 (by decide) hm (fun _ hm => ?_) (fun _ hm => ?_)
      · refine x_iload_n E dX6_tells_41 rfl 3 rfl ?_
        refine x_if_lt (tgt := 56) E dX6_tells_42 (by decide) hm (fun _ hm => ?_) (fun _ hm => ?_)
        · refine x_bipush (v := (iI (-101))) E dX6_tells_56 (by decide) ?_
          exact x_iretS E hm dX6_tells_58
        · refine x_iload_n E dX6_tells_45 rfl 3 rfl ?_
          refine x_aload_n E dX6_tells_46 rfl 0 rfl ?_
          refine x_gf (v := .ref (ad 10 0)) E fr_X6_61 rfl rfl dX6_tells_47 ?_
          refine x_callV (As := []) (rest := [.int a3]) E my_X4_rowLength wG609 (c_X4_rowLength l D cs ad rfl) rfl rfl rfl ⟨Nat.le_of_ble_eq_true rfl, Nat.le_of_ble_eq_true rfl⟩ (Nat.le_of_ble_eq_true rfl) dX6_tells_50 ?_
          refine x_icmp_lt (tgt := 59) E dX6_tells_53 (by decide) hm (fun _ hm => ?_) (fun _ hm => ?_)
          · refine x_aload_n E dX6_tells_59 rfl 0 rfl ?_
            refine x_gf (v := .ref (ad 10 0)) E fr_X6_61 rfl rfl dX6_tells_60 ?_
            refine x_iload_n E dX6_tells_63 rfl 3 rfl ?_
            obtain ⟨r_5, hc, hm⟩ := ob_inv hm
            refine x_callV (As := [.int a3]) (rest := []) E my_X4_rowUnit wG617 (c_X4_rowUnit l D cs ad hc) rfl rfl rfl ⟨Nat.le_of_ble_eq_true rfl, Nat.le_of_ble_eq_true rfl⟩ (Nat.le_of_ble_eq_true rfl) dX6_tells_64 ?_
            exact x_iretS E hm dX6_tells_67
          · refine x_bipush (v := (iI (-101))) E dX6_tells_56 (by decide) ?_
            exact x_iretS E hm dX6_tells_58
      · refine x_bipush (v := (iI (-101))) E dX6_tells_38 (by decide) ?_
        exact x_iretS E hm dX6_tells_40
set_option maxRecDepth 100000 in
set_option maxHeartbeats 4000000 in
theorem c_X6_unit (l : Launch) (D : va_G) (cs : vCs) (ad : Nat → Nat → Nat) {w : Wd} {a1 : Int32} {r : Int32} (hm : X6_unit w a1 = some r) : Mc l yX6_unit cX6_unit 2 (some .int) 0 0 D cs ad [.ref (ad 0 0), .int a1] w (some (.int r)) w := by
  refine Mc.of (by decide) (Nat.le_of_ble_eq_true rfl) ?_
  intro p e s m args below meth c E
  replace E : EV p m c cX6_unit 2 s args RX6 yX6_unit (some .int) meth D cs ad := E
  unfold X6_unit at hm
  refine x_iload_n E dX6_unit_0 rfl 1 rfl ?_
  refine x_if_lt (tgt := 12) E dX6_unit_1 (by decide) hm (fun _ hm => ?_) (fun _ hm => ?_)
  · refine x_bipush (v := (iI (-101))) E dX6_unit_12 (by decide) ?_
    exact x_iretP E hm dX6_unit_14
  · refine x_iload_n E dX6_unit_4 rfl 1 rfl ?_
    refine x_aload_n E dX6_unit_5 rfl 0 rfl ?_
    refine x_gf (v := .int (rd w 0 0 3)) E fr_X6_20 rfl rfl dX6_unit_6 ?_
    refine x_icmp_lt (tgt := 15) E dX6_unit_9 (by decide) hm (fun _ hm => ?_) (fun _ hm => ?_)
    · refine x_aload_n E dX6_unit_15 rfl 0 rfl ?_
      refine x_gf (v := .ref (ad 0 2)) E fr_X6_17 rfl rfl dX6_unit_16 ?_
      refine x_iload_n E dX6_unit_19 rfl 1 rfl ?_
      refine x_iald E rfl rfl (by decide) dX6_unit_20 hm (fun x_1 hm => ?_)
      exact x_iretP E hm dX6_unit_21
    · refine x_bipush (v := (iI (-101))) E dX6_unit_12 (by decide) ?_
      exact x_iretP E hm dX6_unit_14
set_option maxRecDepth 100000 in
set_option maxHeartbeats 4000000 in
theorem c_X7_within (l : Launch) (D : va_G) (cs : vCs) (ad : Nat → Nat → Nat) {w : Wd} {a0 : Int32} {a1 : Int32} {a2 : Int32} {r : Int32} (hm : X7_within a0 a1 a2 = r) : Mc l yX7_within cX7_within 3 (some .boolean) 0 0 D cs ad [.int a0, .int a1, .int a2] w (some (.int r)) w := by
  refine Mc.of (by decide) (Nat.le_of_ble_eq_true rfl) ?_
  intro p e s m args below meth c E
  replace E : EV p m c cX7_within 3 s args RX7 yX7_within (some .boolean) meth D cs ad := E
  unfold X7_within at hm
  refine x_iload_n E dX7_within_0 rfl 0 rfl ?_
  refine x_iload_n E dX7_within_1 rfl 1 rfl ?_
  refine x_icmp_lt (tgt := 14) E dX7_within_2 (by decide) hm (fun _ hm => ?_) (fun _ hm => ?_)
  · refine x_iconst (v := (iI 0)) E dX7_within_14 (by decide) ?_
    exact x_zretT E rfl hm dX7_within_15
  · refine x_iload_n E dX7_within_5 rfl 0 rfl ?_
    refine x_iload_n E dX7_within_6 rfl 2 rfl ?_
    refine x_icmp_gt (tgt := 14) E dX7_within_7 (by decide) hm (fun _ hm => ?_) (fun _ hm => ?_)
    · refine x_iconst (v := (iI 0)) E dX7_within_14 (by decide) ?_
      exact x_zretT E rfl hm dX7_within_15
    · refine x_iconst (v := (iI 1)) E dX7_within_10 (by decide) ?_
      refine x_goto (tgt := 15) E dX7_within_11 (by decide) ?_
      exact x_zretT E rfl hm dX7_within_15
set_option maxRecDepth 100000 in
set_option maxHeartbeats 4000000 in
theorem c_X7_isCode (l : Launch) (D : va_G) (cs : vCs) (ad : Nat → Nat → Nat) {w : Wd} {a1 : Int32} {r : Int32} (hm : X7_isCode w a1 = r) : Mc l yX7_isCode cX7_isCode 2 (some .boolean) 1 22 D cs ad [.ref (ad 12 0), .int a1] w (some (.int r)) w := by
  refine Mc.of (by decide) (Nat.le_of_ble_eq_true rfl) ?_
  intro p e s m args below meth c E
  replace E : EV p m c cX7_isCode 2 s args RX7 yX7_isCode (some .boolean) meth D cs ad := E
  unfold X7_isCode at hm
  refine x_iload_n E dX7_isCode_0 rfl 1 rfl ?_
  refine x_iconst (v := (iI 0)) E dX7_isCode_1 (by decide) ?_
  refine x_aload_n E dX7_isCode_2 rfl 0 rfl ?_
  refine x_gf (v := .int (rd w 12 0 0)) E fr_X7_110 rfl rfl dX7_isCode_3 ?_
  refine x_iconst (v := (iI 1)) E dX7_isCode_6 (by decide) ?_
  refine x_isub E dX7_isCode_7 ?_
  refine x_callS (As := [.int a1, .int (iI 0), .int ((rd w 12 0 0) - (iI 1))]) (rest := []) E my_X7_within wG814 (c_X7_within l D cs ad rfl) rfl ⟨Nat.le_of_ble_eq_true rfl, Nat.le_of_ble_eq_true rfl⟩ (Nat.le_of_ble_eq_true rfl) dX7_isCode_8 ?_
  exact x_zretT E (isB_nar (b_X7_within _ _ _)) hm dX7_isCode_11
set_option maxRecDepth 100000 in
set_option maxHeartbeats 4000000 in
theorem c_X7_begin (l : Launch) (D : va_G) (cs : vCs) (ad : Nat → Nat → Nat) {w : Wd} {w' : Wd} (hm : X7_begin w = some w') : Mc l yX7_begin cX7_begin 2 none 0 0 D cs ad [.ref (ad 12 0)] w none w' := by
  refine Mc.of (by decide) (Nat.le_of_ble_eq_true rfl) ?_
  intro p e s m args below meth c E
  replace E : EV p m c cX7_begin 2 s args RX7 yX7_begin none meth D cs ad := E
  have hL27 : ∀ (fuel : Nat) (b1 : Int32) (w : Wd), X7_begin_L27 fuel b1 w = some w' → XV p l e { frames := 0, cells := 0, slots := 0, locals := 0 } s m args below meth c 2 D cs ad (MQ below (xQ D cs ad none w') args s 0 0 (xF ad)) 27 [(0, .ref (ad 12 0)), (1, .int b1)] [] w := by
    intro fuel
    induction fuel with
    | zero => intro b1 w hm; cases hm
    | succ fuel ih =>
      intro b1 w hm
      rw [X7_begin_L27] at hm
      refine x_iload_n E dX7_begin_27 rfl 1 rfl ?_
      refine x_iconst (v := (iI 4)) E dX7_begin_28 (by decide) ?_
      refine x_icmp_ge (tgt := 45) E dX7_begin_29 (by decide) hm (fun _ hm => ?_) (fun _ hm => ?_)
      · exact x_vretS E hm dX7_begin_45
      · refine x_aload_n E dX7_begin_32 rfl 0 rfl ?_
        refine x_gf (v := .ref (ad 12 7)) E fr_X7_32 rfl rfl dX7_begin_33 ?_
        refine x_iload_n E dX7_begin_36 rfl 1 rfl ?_
        refine x_iconst (v := (iI 0)) E dX7_begin_37 (by decide) ?_
        refine x_iast E rfl rfl (by decide) dX7_begin_38 hm (fun w_6 hm => ?_)
        refine x_iincB (lv' := fun x_7 => [(1, .int x_7), (0, .ref (ad 12 0))]) (j := 1) E dX7_begin_39 rfl rfl (by decide) (fun _ => rfl) hm (fun x_7 hm => ?_)
        refine x_goto (tgt := 27) E dX7_begin_42 (by decide) ?_
        exact x_weak [1, 0] rfl ((ih) x_7 w_6 hm)
  unfold X7_begin at hm
  refine x_aload_n E dX7_begin_0 rfl 0 rfl ?_
  refine x_iconst (v := (iI 0)) E dX7_begin_1 (by decide) ?_
  refine x_pf E fr_X7_155 rfl (by decide) rfl rfl dX7_begin_2 ?_
  refine x_bW hm (fun w_1 hm => ?_)
  refine x_aload_n E dX7_begin_5 rfl 0 rfl ?_
  refine x_iconst (v := (iI (-1))) E dX7_begin_6 (by decide) ?_
  refine x_pf E fr_X7_158 rfl (by decide) rfl rfl dX7_begin_7 ?_
  refine x_bW hm (fun w_2 hm => ?_)
  refine x_aload_n E dX7_begin_10 rfl 0 rfl ?_
  refine x_iconst (v := (iI 0)) E dX7_begin_11 (by decide) ?_
  refine x_pf E fr_X7_161 rfl (by decide) rfl rfl dX7_begin_12 ?_
  refine x_bW hm (fun w_3 hm => ?_)
  refine x_aload_n E dX7_begin_15 rfl 0 rfl ?_
  refine x_iconst (v := (iI 0)) E dX7_begin_16 (by decide) ?_
  refine x_pf E fr_X7_164 rfl (by decide) rfl rfl dX7_begin_17 ?_
  refine x_bW hm (fun w_4 hm => ?_)
  refine x_aload_n E dX7_begin_20 rfl 0 rfl ?_
  refine x_iconst (v := (iI 0)) E dX7_begin_21 (by decide) ?_
  refine x_pf E fr_X7_167 rfl (by decide) rfl rfl dX7_begin_22 ?_
  refine x_bW hm (fun w_5 hm => ?_)
  refine x_iconst (v := (iI 0)) E dX7_begin_25 (by decide) ?_
  refine x_istore_n (lv' := [(1, .int (iI 0)), (0, .ref (ad 12 0))]) E dX7_begin_26 rfl (by decide) rfl ?_
  exact x_weak [1, 0] rfl ((hL27 1000) (iI 0) w_5 hm)
set_option maxRecDepth 100000 in
set_option maxHeartbeats 4000000 in
theorem c_X7_ends (l : Launch) (D : va_G) (cs : vCs) (ad : Nat → Nat → Nat) {w : Wd} {a1 : Int32} {a2 : Int32} {r : Int32} {w' : Wd} (hm : X7_ends w a1 a2 = some (r, w')) : Mc l yX7_ends cX7_ends 3 (some .int) 0 0 D cs ad [.ref (ad 12 0), .int a1, .int a2] w (some (.int r)) w' := by
  refine Mc.of (by decide) (Nat.le_of_ble_eq_true rfl) ?_
  intro p e s m args below meth c E
  replace E : EV p m c cX7_ends 3 s args RX7 yX7_ends (some .int) meth D cs ad := E
  unfold X7_ends at hm
  refine x_aload_n E dX7_ends_0 rfl 0 rfl ?_
  refine x_iload_n E dX7_ends_1 rfl 1 rfl ?_
  refine x_iconst (v := (iI 2)) E dX7_ends_2 (by decide) ?_
  refine x_icmp_ne (tgt := 10) E dX7_ends_3 (by decide) hm (fun _ hm => ?_) (fun _ hm => ?_)
  · refine x_iload_n E dX7_ends_10 rfl 1 rfl ?_
    refine x_pf E fr_X7_142 rfl (by decide) rfl rfl dX7_ends_11 ?_
    refine x_bW hm (fun w_1 hm => ?_)
    refine x_iload_n E dX7_ends_14 rfl 1 rfl ?_
    refine x_iconst (v := (iI 2)) E dX7_ends_15 (by decide) ?_
    refine x_icmp_ne (tgt := 23) E dX7_ends_16 (by decide) hm (fun _ hm => ?_) (fun _ hm => ?_)
    · refine x_iload_n E dX7_ends_23 rfl 2 rfl ?_
      exact x_iretS E hm dX7_ends_24
    · refine x_iconst (v := (iI (-1))) E dX7_ends_19 (by decide) ?_
      refine x_goto (tgt := 24) E dX7_ends_20 (by decide) ?_
      exact x_iretS E hm dX7_ends_24
  · refine x_iconst (v := (iI (-1))) E dX7_ends_6 (by decide) ?_
    refine x_goto (tgt := 11) E dX7_ends_7 (by decide) ?_
    refine x_pf E fr_X7_142 rfl (by decide) rfl rfl dX7_ends_11 ?_
    refine x_bW hm (fun w_2 hm => ?_)
    refine x_iload_n E dX7_ends_14 rfl 1 rfl ?_
    refine x_iconst (v := (iI 2)) E dX7_ends_15 (by decide) ?_
    refine x_icmp_ne (tgt := 23) E dX7_ends_16 (by decide) hm (fun _ hm => ?_) (fun _ hm => ?_)
    · refine x_iload_n E dX7_ends_23 rfl 2 rfl ?_
      exact x_iretS E hm dX7_ends_24
    · refine x_iconst (v := (iI (-1))) E dX7_ends_19 (by decide) ?_
      refine x_goto (tgt := 24) E dX7_ends_20 (by decide) ?_
      exact x_iretS E hm dX7_ends_24
set_option maxRecDepth 100000 in
set_option maxHeartbeats 4000000 in
theorem c_X7_stepCounted (l : Launch) (D : va_G) (cs : vCs) (ad : Nat → Nat → Nat) {w : Wd} {a1 : Int32} {a2 : Int32} {r : Int32} {w' : Wd} (hm : X7_stepCounted w a1 a2 = some (r, w')) : Mc l yX7_stepCounted cX7_stepCounted 3 (some .int) 1 22 D cs ad [.ref (ad 12 0), .int a1, .int a2] w (some (.int r)) w' := by
  refine Mc.of (by decide) (Nat.le_of_ble_eq_true rfl) ?_
  intro p e s m args below meth c E
  replace E : EV p m c cX7_stepCounted 3 s args RX7 yX7_stepCounted (some .int) meth D cs ad := E
  unfold X7_stepCounted at hm
  refine x_iload_n E dX7_stepCounted_0 rfl 2 rfl ?_
  refine x_if_le (tgt := 41) E dX7_stepCounted_1 (by decide) hm (fun _ hm => ?_) (fun _ hm => ?_)
  · refine x_iload_n E dX7_stepCounted_41 rfl 1 rfl ?_
    refine x_bipush (v := (iI 7)) E dX7_stepCounted_42 (by decide) ?_
    refine x_icmp_ne (tgt := 49) E dX7_stepCounted_44 (by decide) hm (fun _ hm => ?_) (fun _ hm => ?_)
    · refine x_iload_n E dX7_stepCounted_49 rfl 1 rfl ?_
      refine x_iconst (v := (iI 2)) E dX7_stepCounted_50 (by decide) ?_
      refine x_icmp_gt (tgt := 63) E dX7_stepCounted_51 (by decide) hm (fun _ hm => ?_) (fun _ hm => ?_)
      · refine x_iload_n E dX7_stepCounted_63 rfl 1 rfl ?_
        refine x_iconst (v := (iI 2)) E dX7_stepCounted_64 (by decide) ?_
        refine x_isub E dX7_stepCounted_65 ?_
        exact x_iretS E hm dX7_stepCounted_66
      · refine x_aload_n E dX7_stepCounted_54 rfl 0 rfl ?_
        refine x_iload_n E dX7_stepCounted_55 rfl 1 rfl ?_
        refine x_iconst (v := (iI 0)) E dX7_stepCounted_56 (by decide) ?_
        obtain ⟨r_1, w_2, hc, hm⟩ := bI_inv hm
        refine x_callV (As := [.int a1, .int (iI 0)]) (rest := []) E my_X7_ends wG930 (c_X7_ends l D cs ad hc) rfl rfl rfl ⟨Nat.le_of_ble_eq_true rfl, Nat.le_of_ble_eq_true rfl⟩ (Nat.le_of_ble_eq_true rfl) dX7_stepCounted_57 ?_
        refine x_goto (tgt := 66) E dX7_stepCounted_60 (by decide) ?_
        exact x_iretS E hm dX7_stepCounted_66
    · refine x_iconst (v := (iI (-1))) E dX7_stepCounted_47 (by decide) ?_
      exact x_iretS E hm dX7_stepCounted_48
  · refine x_iload_n E dX7_stepCounted_4 rfl 1 rfl ?_
    refine x_bipush (v := (iI 7)) E dX7_stepCounted_5 (by decide) ?_
    refine x_icmp_eq (tgt := 12) E dX7_stepCounted_7 (by decide) hm (fun _ hm => ?_) (fun _ hm => ?_)
    · refine x_aload_n E dX7_stepCounted_12 rfl 0 rfl ?_
      refine x_iload_n E dX7_stepCounted_13 rfl 2 rfl ?_
      refine x_iconst (v := (iI 3)) E dX7_stepCounted_14 (by decide) ?_
      refine x_icmp_ge (tgt := 24) E dX7_stepCounted_15 (by decide) hm (fun _ hm => ?_) (fun _ hm => ?_)
      · refine x_iconst (v := (iI (-1))) E dX7_stepCounted_24 (by decide) ?_
        refine x_pf E fr_X7_142 rfl (by decide) rfl rfl dX7_stepCounted_25 ?_
        refine x_bW hm (fun w_3 hm => ?_)
        refine x_iload_n E dX7_stepCounted_28 rfl 2 rfl ?_
        refine x_iconst (v := (iI 3)) E dX7_stepCounted_29 (by decide) ?_
        refine x_icmp_ge (tgt := 37) E dX7_stepCounted_30 (by decide) hm (fun _ hm => ?_) (fun _ hm => ?_)
        · refine x_iload_n E dX7_stepCounted_37 rfl 2 rfl ?_
          refine x_iconst (v := (iI 2)) E dX7_stepCounted_38 (by decide) ?_
          refine x_isub E dX7_stepCounted_39 ?_
          exact x_iretS E hm dX7_stepCounted_40
        · refine x_iconst (v := (iI 0)) E dX7_stepCounted_33 (by decide) ?_
          refine x_goto (tgt := 40) E dX7_stepCounted_34 (by decide) ?_
          exact x_iretS E hm dX7_stepCounted_40
      · refine x_iload_n E dX7_stepCounted_18 rfl 2 rfl ?_
        refine x_iconst (v := (iI 1)) E dX7_stepCounted_19 (by decide) ?_
        refine x_isub E dX7_stepCounted_20 ?_
        refine x_goto (tgt := 25) E dX7_stepCounted_21 (by decide) ?_
        refine x_pf E fr_X7_142 rfl (by decide) rfl rfl dX7_stepCounted_25 ?_
        refine x_bW hm (fun w_4 hm => ?_)
        refine x_iload_n E dX7_stepCounted_28 rfl 2 rfl ?_
        refine x_iconst (v := (iI 3)) E dX7_stepCounted_29 (by decide) ?_
        refine x_icmp_ge (tgt := 37) E dX7_stepCounted_30 (by decide) hm (fun _ hm => ?_) (fun _ hm => ?_)
        · refine x_iload_n E dX7_stepCounted_37 rfl 2 rfl ?_
          refine x_iconst (v := (iI 2)) E dX7_stepCounted_38 (by decide) ?_
          refine x_isub E dX7_stepCounted_39 ?_
          exact x_iretS E hm dX7_stepCounted_40
        · refine x_iconst (v := (iI 0)) E dX7_stepCounted_33 (by decide) ?_
          refine x_goto (tgt := 40) E dX7_stepCounted_34 (by decide) ?_
          exact x_iretS E hm dX7_stepCounted_40
    · refine x_iconst (v := (iI (-1))) E dX7_stepCounted_10 (by decide) ?_
      exact x_iretS E hm dX7_stepCounted_11
set_option maxRecDepth 100000 in
set_option maxHeartbeats 4000000 in
theorem c_X7_stepTurned (l : Launch) (D : va_G) (cs : vCs) (ad : Nat → Nat → Nat) {w : Wd} {a1 : Int32} {a2 : Int32} {a3 : Int32} {r : Int32} {w' : Wd} (hm : X7_stepTurned w a1 a2 a3 = some (r, w')) : Mc l yX7_stepTurned cX7_stepTurned 4 (some .int) 1 22 D cs ad [.ref (ad 12 0), .int a1, .int a2, .int a3] w (some (.int r)) w' := by
  refine Mc.of (by decide) (Nat.le_of_ble_eq_true rfl) ?_
  intro p e s m args below meth c E
  replace E : EV p m c cX7_stepTurned 4 s args RX7 yX7_stepTurned (some .int) meth D cs ad := E
  unfold X7_stepTurned at hm
  refine x_iload_n E dX7_stepTurned_0 rfl 3 rfl ?_
  refine x_aload_n E dX7_stepTurned_1 rfl 0 rfl ?_
  refine x_gf (v := .ref (ad 12 2)) E fr_X7_13 rfl rfl dX7_stepTurned_2 ?_
  refine x_iload_n E dX7_stepTurned_5 rfl 1 rfl ?_
  refine x_iald E rfl rfl (by decide) dX7_stepTurned_6 hm (fun x_1 hm => ?_)
  refine x_icmp_ne (tgt := 16) E dX7_stepTurned_7 (by decide) hm (fun _ hm => ?_) (fun _ hm => ?_)
  · refine x_aload_n E dX7_stepTurned_16 rfl 0 rfl ?_
    refine x_aload_n E dX7_stepTurned_17 rfl 0 rfl ?_
    refine x_gf (v := .ref (ad 12 3)) E fr_X7_16 rfl rfl dX7_stepTurned_18 ?_
    refine x_bipush (v := (iI 16)) E dX7_stepTurned_21 (by decide) ?_
    refine x_iload_n E dX7_stepTurned_23 rfl 1 rfl ?_
    refine x_imul E dX7_stepTurned_24 ?_
    refine x_bipush (v := (iI 8)) E dX7_stepTurned_25 (by decide) ?_
    refine x_iload_n E dX7_stepTurned_27 rfl 2 rfl ?_
    refine x_imul E dX7_stepTurned_28 ?_
    refine x_iadd E dX7_stepTurned_29 ?_
    refine x_iload_n E dX7_stepTurned_30 rfl 3 rfl ?_
    refine x_iadd E dX7_stepTurned_31 ?_
    refine x_iald E rfl rfl (by decide) dX7_stepTurned_32 hm (fun x_2 hm => ?_)
    refine x_iload_n E dX7_stepTurned_33 rfl 2 rfl ?_
    obtain ⟨r_3, w_4, hc, hm⟩ := bI_inv hm
    refine x_callV (As := [.int x_2, .int a2]) (rest := []) E my_X7_ends wG930 (c_X7_ends l D cs ad hc) rfl rfl rfl ⟨Nat.le_of_ble_eq_true rfl, Nat.le_of_ble_eq_true rfl⟩ (Nat.le_of_ble_eq_true rfl) dX7_stepTurned_34 ?_
    exact x_iretS E hm dX7_stepTurned_37
  · refine x_iconst (v := (iI 1)) E dX7_stepTurned_10 (by decide) ?_
    refine x_iload_n E dX7_stepTurned_11 rfl 2 rfl ?_
    refine x_isub E dX7_stepTurned_12 ?_
    refine x_goto (tgt := 37) E dX7_stepTurned_13 (by decide) ?_
    exact x_iretS E hm dX7_stepTurned_37
set_option maxRecDepth 100000 in
set_option maxHeartbeats 4000000 in
theorem c_X7_step (l : Launch) (D : va_G) (cs : vCs) (ad : Nat → Nat → Nat) {w : Wd} {a1 : Int32} {a2 : Int32} {a3 : Int32} {r : Int32} {w' : Wd} (hm : X7_step w a1 a2 a3 = some (r, w')) : Mc l yX7_step cX7_step 5 (some .int) 2 45 D cs ad [.ref (ad 12 0), .int a1, .int a2, .int a3] w (some (.int r)) w' := by
  refine Mc.of (by decide) (Nat.le_of_ble_eq_true rfl) ?_
  intro p e s m args below meth c E
  replace E : EV p m c cX7_step 5 s args RX7 yX7_step (some .int) meth D cs ad := E
  unfold X7_step at hm
  refine x_aload_n E dX7_step_0 rfl 0 rfl ?_
  refine x_iconst (v := (iI (-1))) E dX7_step_1 (by decide) ?_
  refine x_pf E fr_X7_142 rfl (by decide) rfl rfl dX7_step_2 ?_
  refine x_bW hm (fun w_1 hm => ?_)
  refine x_aload_n E dX7_step_5 rfl 0 rfl ?_
  refine x_gf (v := .ref (ad 12 3)) E fr_X7_16 rfl rfl dX7_step_6 ?_
  refine x_bipush (v := (iI 16)) E dX7_step_9 (by decide) ?_
  refine x_iload_n E dX7_step_11 rfl 1 rfl ?_
  refine x_imul E dX7_step_12 ?_
  refine x_iload_n E dX7_step_13 rfl 3 rfl ?_
  refine x_iadd E dX7_step_14 ?_
  refine x_iald E rfl rfl (by decide) dX7_step_15 hm (fun x_2 hm => ?_)
  refine x_istore (lv' := [(4, .int x_2), (0, .ref (ad 12 0)), (1, .int a1), (2, .int a2), (3, .int a3)]) E dX7_step_16 (by decide) rfl ?_
  refine x_aload_n E dX7_step_18 rfl 1 rfl ?_
  refine x_gf (v := .ref (ad 12 1)) E fr_X7_7 rfl rfl dX7_step_19 ?_
  refine x_iload_n E dX7_step_22 rfl 2 rfl ?_
  refine x_iald E rfl rfl (by decide) dX7_step_23 hm (fun x_3 hm => ?_)
  refine x_split hm (fun hx hm => ?_) (fun hs0 hm => ?_)
  · refine x_tin (kv := (iI 1)) (tgt := 52) E dX7_step_24 hx rfl (by decide) (by decide) rfl (by decide) ?_
    refine x_iload_n E dX7_step_52 rfl 3 rfl ?_
    refine x_if_ne (tgt := 70) E dX7_step_53 (by decide) hm (fun _ hm => ?_) (fun _ hm => ?_)
    · refine x_aload_n E dX7_step_70 rfl 1 rfl ?_
      refine x_iload E dX7_step_71 0 rfl ?_
      refine x_iconst (v := (iI 0)) E dX7_step_73 (by decide) ?_
      obtain ⟨r_4, w_5, hc, hm⟩ := bI_inv hm
      refine x_callV (As := [.int x_2, .int (iI 0)]) (rest := []) E my_X7_ends wG930 (c_X7_ends l D cs ad hc) rfl rfl rfl ⟨Nat.le_of_ble_eq_true rfl, Nat.le_of_ble_eq_true rfl⟩ (Nat.le_of_ble_eq_true rfl) dX7_step_74 ?_
      exact x_iretS E hm dX7_step_77
    · refine x_iload_n E dX7_step_56 rfl 4 rfl ?_
      refine x_aload_n E dX7_step_57 rfl 1 rfl ?_
      refine x_gf (v := .ref (ad 12 2)) E fr_X7_13 rfl rfl dX7_step_58 ?_
      refine x_iload_n E dX7_step_61 rfl 2 rfl ?_
      refine x_iald E rfl rfl (by decide) dX7_step_62 hm (fun x_6 hm => ?_)
      refine x_icmp_lt (tgt := 70) E dX7_step_63 (by decide) hm (fun _ hm => ?_) (fun _ hm => ?_)
      · refine x_aload_n E dX7_step_70 rfl 1 rfl ?_
        refine x_iload E dX7_step_71 0 rfl ?_
        refine x_iconst (v := (iI 0)) E dX7_step_73 (by decide) ?_
        obtain ⟨r_7, w_8, hc, hm⟩ := bI_inv hm
        refine x_callV (As := [.int x_2, .int (iI 0)]) (rest := []) E my_X7_ends wG930 (c_X7_ends l D cs ad hc) rfl rfl rfl ⟨Nat.le_of_ble_eq_true rfl, Nat.le_of_ble_eq_true rfl⟩ (Nat.le_of_ble_eq_true rfl) dX7_step_74 ?_
        exact x_iretS E hm dX7_step_77
      · refine x_iconst (v := (iI 1)) E dX7_step_66 (by decide) ?_
        refine x_goto (tgt := 77) E dX7_step_67 (by decide) ?_
        exact x_iretS E hm dX7_step_77
  refine x_split hm (fun hx hm => ?_) (fun hs1 hm => ?_)
  · refine x_tin (kv := (iI 2)) (tgt := 78) E dX7_step_24 hx rfl (by decide) (by decide) rfl (by decide) ?_
    refine x_aload_n E dX7_step_78 rfl 1 rfl ?_
    refine x_iload E dX7_step_79 0 rfl ?_
    refine x_iload_n E dX7_step_81 rfl 3 rfl ?_
    obtain ⟨r_9, w_10, hc, hm⟩ := bI_inv hm
    refine x_callV (As := [.int x_2, .int a2]) (rest := []) E my_X7_stepCounted wG934 (c_X7_stepCounted l D cs ad hc) rfl rfl rfl ⟨Nat.le_of_ble_eq_true rfl, Nat.le_of_ble_eq_true rfl⟩ (Nat.le_of_ble_eq_true rfl) dX7_step_82 ?_
    exact x_iretS E hm dX7_step_85
  refine x_split hm (fun hx hm => ?_) (fun hs2 hm => ?_)
  · refine x_tin (kv := (iI 3)) (tgt := 86) E dX7_step_24 hx rfl (by decide) (by decide) rfl (by decide) ?_
    refine x_aload_n E dX7_step_86 rfl 1 rfl ?_
    refine x_iload_n E dX7_step_87 rfl 2 rfl ?_
    refine x_iload_n E dX7_step_88 rfl 3 rfl ?_
    refine x_iload_n E dX7_step_89 rfl 4 rfl ?_
    obtain ⟨r_11, w_12, hc, hm⟩ := bI_inv hm
    refine x_callV (As := [.int a1, .int a2, .int a3]) (rest := []) E my_X7_stepTurned wG938 (c_X7_stepTurned l D cs ad hc) rfl rfl rfl ⟨Nat.le_of_ble_eq_true rfl, Nat.le_of_ble_eq_true rfl⟩ (Nat.le_of_ble_eq_true rfl) dX7_step_90 ?_
    exact x_iretS E hm dX7_step_93
  refine x_tout (tgt := 94) E dX7_step_24 (by have := lv_neT (a := 1) hs0 rfl; have := lv_neT (a := 2) hs1 rfl; have := lv_neT (a := 3) hs2 rfl; omega) (by decide) ?_
  refine x_aload_n E dX7_step_94 rfl 1 rfl ?_
  refine x_iload E dX7_step_95 0 rfl ?_
  refine x_iconst (v := (iI 0)) E dX7_step_97 (by decide) ?_
  obtain ⟨r_13, w_14, hc, hm⟩ := bI_inv hm
  refine x_callV (As := [.int x_2, .int (iI 0)]) (rest := []) E my_X7_ends wG930 (c_X7_ends l D cs ad hc) rfl rfl rfl ⟨Nat.le_of_ble_eq_true rfl, Nat.le_of_ble_eq_true rfl⟩ (Nat.le_of_ble_eq_true rfl) dX7_step_98 ?_
  exact x_iretS E hm dX7_step_101
set_option maxRecDepth 100000 in
set_option maxHeartbeats 4000000 in
theorem c_X7_goOn (l : Launch) (D : va_G) (cs : vCs) (ad : Nat → Nat → Nat) {w : Wd} {a1 : Int32} {a2 : Int32} {w' : Wd} (hm : X7_goOn w a1 a2 = some w') : Mc l yX7_goOn cX7_goOn 4 none 3 69 D cs ad [.ref (ad 12 0), .int a1, .int a2] w none w' := by
  refine Mc.of (by decide) (Nat.le_of_ble_eq_true rfl) ?_
  intro p e s m args below meth c E
  replace E : EV p m c cX7_goOn 4 s args RX7 yX7_goOn none meth D cs ad := E
  have hL31 : ∀ (b1 : Int32) (b3 : Int32) (w : Wd), X7_goOn_L31 b1 b3 w = some w' → XV p l e { frames := 3, cells := 0, slots := 0, locals := 69 } s m args below meth c 4 D cs ad (MQ below (xQ D cs ad none w') args s 0 0 (xF ad)) 31 [(0, .ref (ad 12 0)), (1, .int b1), (3, .int b3)] [] w := by
    intro b1 b3 w hm
    unfold X7_goOn_L31 at hm
    refine x_iload_n E dX7_goOn_31 rfl 2 rfl ?_
    refine x_iconst (v := (iI (-1))) E dX7_goOn_32 (by decide) ?_
    refine x_icmp_eq (tgt := 119) E dX7_goOn_33 (by decide) hm (fun _ hm => ?_) (fun _ hm => ?_)
    · exact x_vretS E hm dX7_goOn_119
    · refine x_aload_n E dX7_goOn_36 rfl 0 rfl ?_
      refine x_gf (v := .int (rd w 12 0 13)) E fr_X7_142 rfl rfl dX7_goOn_37 ?_
      refine x_iconst (v := (iI (-1))) E dX7_goOn_40 (by decide) ?_
      refine x_icmp_eq (tgt := 119) E dX7_goOn_41 (by decide) hm (fun _ hm => ?_) (fun _ hm => ?_)
      · exact x_vretS E hm dX7_goOn_119
      · refine x_aload_n E dX7_goOn_44 rfl 0 rfl ?_
        refine x_gf (v := .int (rd w 12 0 15)) E fr_X7_158 rfl rfl dX7_goOn_45 ?_
        refine x_iconst (v := (iI (-1))) E dX7_goOn_48 (by decide) ?_
        refine x_icmp_eq (tgt := 101) E dX7_goOn_49 (by decide) hm (fun _ hm => ?_) (fun _ hm => ?_)
        · refine x_aload_n E dX7_goOn_101 rfl 0 rfl ?_
          refine x_dup E dX7_goOn_102 rfl ?_
          refine x_gf (v := .int (rd w 12 0 16)) E fr_X7_161 rfl rfl dX7_goOn_103 ?_
          refine x_iconst (v := (iI 1)) E dX7_goOn_106 (by decide) ?_
          refine x_iadd E dX7_goOn_107 ?_
          refine x_pf E fr_X7_161 rfl (by decide) rfl rfl dX7_goOn_108 ?_
          refine x_bW hm (fun w_5 hm => ?_)
          refine x_aload_n E dX7_goOn_111 rfl 0 rfl ?_
          refine x_aload_n E dX7_goOn_112 rfl 0 rfl ?_
          refine x_gf (v := .int (rd w_5 12 0 13)) E fr_X7_142 rfl rfl dX7_goOn_113 ?_
          refine x_pf E fr_X7_158 rfl (by decide) rfl rfl dX7_goOn_116 ?_
          refine x_bW hm (fun w_6 hm => ?_)
          exact x_vretS E hm dX7_goOn_119
        · refine x_aload_n E dX7_goOn_52 rfl 0 rfl ?_
          refine x_gf (v := .ref (ad 12 7)) E fr_X7_32 rfl rfl dX7_goOn_53 ?_
          refine x_iconst (v := (iI 2)) E dX7_goOn_56 (by decide) ?_
          refine x_aload_n E dX7_goOn_57 rfl 0 rfl ?_
          refine x_gf (v := .int (rd w 12 0 15)) E fr_X7_158 rfl rfl dX7_goOn_58 ?_
          refine x_imul E dX7_goOn_61 ?_
          refine x_aload_n E dX7_goOn_62 rfl 0 rfl ?_
          refine x_gf (v := .int (rd w 12 0 13)) E fr_X7_142 rfl rfl dX7_goOn_63 ?_
          refine x_iadd E dX7_goOn_66 ?_
          refine x_dup2 E dX7_goOn_67 rfl rfl ?_
          refine x_iald E rfl rfl (by decide) dX7_goOn_68 hm (fun x_7 hm => ?_)
          refine x_iconst (v := (iI 1)) E dX7_goOn_69 (by decide) ?_
          refine x_iadd E dX7_goOn_70 ?_
          refine x_iast E rfl rfl (by decide) dX7_goOn_71 hm (fun w_8 hm => ?_)
          refine x_aload_n E dX7_goOn_72 rfl 0 rfl ?_
          refine x_dup E dX7_goOn_73 rfl ?_
          refine x_gf (v := .int (rd w_8 12 0 17)) E fr_X7_164 rfl rfl dX7_goOn_74 ?_
          refine x_aload_n E dX7_goOn_77 rfl 0 rfl ?_
          refine x_gf (v := .ref (ad 12 4)) E fr_X7_19 rfl rfl dX7_goOn_78 ?_
          refine x_iconst (v := (iI 4)) E dX7_goOn_81 (by decide) ?_
          refine x_iload_n E dX7_goOn_82 rfl 1 rfl ?_
          refine x_imul E dX7_goOn_83 ?_
          refine x_iconst (v := (iI 2)) E dX7_goOn_84 (by decide) ?_
          refine x_aload_n E dX7_goOn_85 rfl 0 rfl ?_
          refine x_gf (v := .int (rd w_8 12 0 15)) E fr_X7_158 rfl rfl dX7_goOn_86 ?_
          refine x_imul E dX7_goOn_89 ?_
          refine x_iadd E dX7_goOn_90 ?_
          refine x_aload_n E dX7_goOn_91 rfl 0 rfl ?_
          refine x_gf (v := .int (rd w_8 12 0 13)) E fr_X7_142 rfl rfl dX7_goOn_92 ?_
          refine x_iadd E dX7_goOn_95 ?_
          refine x_iald E rfl rfl (by decide) dX7_goOn_96 hm (fun x_9 hm => ?_)
          refine x_iadd E dX7_goOn_97 ?_
          refine x_pf E fr_X7_164 rfl (by decide) rfl rfl dX7_goOn_98 ?_
          refine x_bW hm (fun w_10 hm => ?_)
          refine x_aload_n E dX7_goOn_101 rfl 0 rfl ?_
          refine x_dup E dX7_goOn_102 rfl ?_
          refine x_gf (v := .int (rd w_10 12 0 16)) E fr_X7_161 rfl rfl dX7_goOn_103 ?_
          refine x_iconst (v := (iI 1)) E dX7_goOn_106 (by decide) ?_
          refine x_iadd E dX7_goOn_107 ?_
          refine x_pf E fr_X7_161 rfl (by decide) rfl rfl dX7_goOn_108 ?_
          refine x_bW hm (fun w_11 hm => ?_)
          refine x_aload_n E dX7_goOn_111 rfl 0 rfl ?_
          refine x_aload_n E dX7_goOn_112 rfl 0 rfl ?_
          refine x_gf (v := .int (rd w_11 12 0 13)) E fr_X7_142 rfl rfl dX7_goOn_113 ?_
          refine x_pf E fr_X7_158 rfl (by decide) rfl rfl dX7_goOn_116 ?_
          refine x_bW hm (fun w_12 hm => ?_)
          exact x_vretS E hm dX7_goOn_119
  unfold X7_goOn at hm
  refine x_aload_n E dX7_goOn_0 rfl 0 rfl ?_
  refine x_iload_n E dX7_goOn_1 rfl 1 rfl ?_
  refine x_aload_n E dX7_goOn_2 rfl 0 rfl ?_
  refine x_gf (v := .int (rd w 12 0 14)) E fr_X7_155 rfl rfl dX7_goOn_3 ?_
  refine x_iload_n E dX7_goOn_6 rfl 2 rfl ?_
  obtain ⟨r_1, w_2, hc, hm⟩ := bI_inv hm
  refine x_callV (As := [.int a1, .int (rd w 12 0 14), .int a2]) (rest := []) E my_X7_step wG926 (c_X7_step l D cs ad hc) rfl rfl rfl ⟨Nat.le_of_ble_eq_true rfl, Nat.le_of_ble_eq_true rfl⟩ (Nat.le_of_ble_eq_true rfl) dX7_goOn_7 ?_
  refine x_istore_n (lv' := [(3, .int r_1), (0, .ref (ad 12 0)), (1, .int a1), (2, .int a2)]) E dX7_goOn_10 rfl (by decide) rfl ?_
  refine x_aload_n E dX7_goOn_11 rfl 1 rfl ?_
  refine x_iload_n E dX7_goOn_12 rfl 0 rfl ?_
  refine x_pf E fr_X7_155 rfl (by decide) rfl rfl dX7_goOn_13 ?_
  refine x_bW hm (fun w_3 hm => ?_)
  refine x_iload_n E dX7_goOn_16 rfl 0 rfl ?_
  refine x_iconst (v := (iI (-1))) E dX7_goOn_17 (by decide) ?_
  refine x_icmp_eq (tgt := 31) E dX7_goOn_18 (by decide) hm (fun _ hm => ?_) (fun _ hm => ?_)
  · exact x_weak [1, 2, 0] rfl ((hL31) a1 r_1 w_3 hm)
  · refine x_aload_n E dX7_goOn_21 rfl 1 rfl ?_
    refine x_dup E dX7_goOn_22 rfl ?_
    refine x_gf (v := .int (rd w_3 12 0 18)) E fr_X7_167 rfl rfl dX7_goOn_23 ?_
    refine x_iconst (v := (iI 1)) E dX7_goOn_26 (by decide) ?_
    refine x_iadd E dX7_goOn_27 ?_
    refine x_pf E fr_X7_167 rfl (by decide) rfl rfl dX7_goOn_28 ?_
    refine x_bW hm (fun w_4 hm => ?_)
    exact x_weak [1, 2, 0] rfl ((hL31) a1 r_1 w_4 hm)
set_option maxRecDepth 100000 in
set_option maxHeartbeats 4000000 in
theorem c_X7_goAlong (l : Launch) (D : va_G) (cs : vCs) (ad : Nat → Nat → Nat) {w : Wd} {a1 : Int32} {a2 : Int32} {w' : Wd} (hm : X7_goAlong w a1 a2 = some w') : Mc l yX7_goAlong cX7_goAlong 4 none 4 92 D cs ad [.ref (ad 12 0), .int a1, .int a2] w none w' := by
  refine Mc.of (by decide) (Nat.le_of_ble_eq_true rfl) ?_
  intro p e s m args below meth c E
  replace E : EV p m c cX7_goAlong 4 s args RX7 yX7_goAlong none meth D cs ad := E
  have hL6 : ∀ (fuel : Nat) (b1 : Int32) (b2 : Int32) (b3 : Int32) (w : Wd), X7_goAlong_L6 fuel b1 b2 b3 w = some w' → XV p l e { frames := 4, cells := 0, slots := 0, locals := 92 } s m args below meth c 4 D cs ad (MQ below (xQ D cs ad none w') args s 0 0 (xF ad)) 6 [(0, .ref (ad 12 0)), (1, .int b1), (2, .int b2), (3, .int b3)] [] w := by
    intro fuel
    induction fuel with
    | zero => intro b1 b2 b3 w hm; cases hm
    | succ fuel ih =>
      intro b1 b2 b3 w hm
      rw [X7_goAlong_L6] at hm
      refine x_iload_n E dX7_goAlong_6 rfl 3 rfl ?_
      refine x_iload_n E dX7_goAlong_7 rfl 2 rfl ?_
      refine x_icmp_ge (tgt := 36) E dX7_goAlong_8 (by decide) hm (fun _ hm => ?_) (fun _ hm => ?_)
      · exact x_vretS E hm dX7_goAlong_36
      · refine x_aload_n E dX7_goAlong_11 rfl 0 rfl ?_
        refine x_gf (v := .int (rd w 12 0 14)) E fr_X7_155 rfl rfl dX7_goAlong_12 ?_
        refine x_iconst (v := (iI (-1))) E dX7_goAlong_15 (by decide) ?_
        refine x_icmp_eq (tgt := 36) E dX7_goAlong_16 (by decide) hm (fun _ hm => ?_) (fun _ hm => ?_)
        · exact x_vretS E hm dX7_goAlong_36
        · refine x_aload_n E dX7_goAlong_19 rfl 0 rfl ?_
          refine x_iload_n E dX7_goAlong_20 rfl 1 rfl ?_
          refine x_aload_n E dX7_goAlong_21 rfl 0 rfl ?_
          refine x_gf (v := .ref (ad 12 5)) E fr_X7_26 rfl rfl dX7_goAlong_22 ?_
          refine x_iload_n E dX7_goAlong_25 rfl 3 rfl ?_
          refine x_iald E rfl rfl (by decide) dX7_goAlong_26 hm (fun x_2 hm => ?_)
          obtain ⟨w_3, hc, hm⟩ := ob_inv hm
          refine x_callV (As := [.int b1, .int x_2]) (rest := []) E my_X7_goOn wG922 (c_X7_goOn l D cs ad hc) rfl rfl rfl ⟨Nat.le_of_ble_eq_true rfl, Nat.le_of_ble_eq_true rfl⟩ (Nat.le_of_ble_eq_true rfl) dX7_goAlong_27 ?_
          refine x_iincB (lv' := fun x_4 => [(3, .int x_4), (0, .ref (ad 12 0)), (1, .int b1), (2, .int b2)]) (j := 3) E dX7_goAlong_30 rfl rfl (by decide) (fun _ => rfl) hm (fun x_4 hm => ?_)
          refine x_goto (tgt := 6) E dX7_goAlong_33 (by decide) ?_
          exact x_weak [1, 2, 3, 0] rfl ((ih) b1 b2 x_4 w_3 hm)
  unfold X7_goAlong at hm
  refine x_aload_n E dX7_goAlong_0 rfl 0 rfl ?_
  obtain ⟨w_1, hc, hm⟩ := ob_inv hm
  refine x_callV (As := []) (rest := []) E my_X7_begin wG918 (c_X7_begin l D cs ad hc) rfl rfl rfl ⟨Nat.le_of_ble_eq_true rfl, Nat.le_of_ble_eq_true rfl⟩ (Nat.le_of_ble_eq_true rfl) dX7_goAlong_1 ?_
  refine x_iconst (v := (iI 0)) E dX7_goAlong_4 (by decide) ?_
  refine x_istore_n (lv' := [(3, .int (iI 0)), (0, .ref (ad 12 0)), (1, .int a1), (2, .int a2)]) E dX7_goAlong_5 rfl (by decide) rfl ?_
  exact x_weak [1, 2, 3, 0] rfl ((hL6 1000) a1 a2 (iI 0) w_1 hm)
set_option maxRecDepth 100000 in
set_option maxHeartbeats 4000000 in
theorem c_X7_isAlive (l : Launch) (D : va_G) (cs : vCs) (ad : Nat → Nat → Nat) {w : Wd} {a1 : Int32} {r : Int32} {w' : Wd} (hm : X7_isAlive w a1 = some (r, w')) : Mc l yX7_isAlive cX7_isAlive 2 (some .boolean) 5 115 D cs ad [.ref (ad 12 0), .int a1] w (some (.int r)) w' := by
  refine Mc.of (by decide) (Nat.le_of_ble_eq_true rfl) ?_
  intro p e s m args below meth c E
  replace E : EV p m c cX7_isAlive 2 s args RX7 yX7_isAlive (some .boolean) meth D cs ad := E
  unfold X7_isAlive at hm
  refine x_aload_n E dX7_isAlive_0 rfl 0 rfl ?_
  refine x_iload_n E dX7_isAlive_1 rfl 1 rfl ?_
  refine x_aload_n E dX7_isAlive_2 rfl 0 rfl ?_
  refine x_gf (v := .int (rd w 12 0 8)) E fr_X7_133 rfl rfl dX7_isAlive_3 ?_
  obtain ⟨w_1, hc, hm⟩ := ob_inv hm
  refine x_callV (As := [.int a1, .int (rd w 12 0 8)]) (rest := []) E my_X7_goAlong wG914 (c_X7_goAlong l D cs ad hc) rfl rfl rfl ⟨Nat.le_of_ble_eq_true rfl, Nat.le_of_ble_eq_true rfl⟩ (Nat.le_of_ble_eq_true rfl) dX7_isAlive_6 ?_
  refine x_aload_n E dX7_isAlive_9 rfl 0 rfl ?_
  refine x_gf (v := .int (rd w_1 12 0 14)) E fr_X7_155 rfl rfl dX7_isAlive_10 ?_
  refine x_iconst (v := (iI (-1))) E dX7_isAlive_13 (by decide) ?_
  refine x_icmp_eq (tgt := 21) E dX7_isAlive_14 (by decide) hm (fun _ hm => ?_) (fun _ hm => ?_)
  · refine x_iconst (v := (iI 0)) E dX7_isAlive_21 (by decide) ?_
    exact x_zretS E rfl hm dX7_isAlive_22
  · refine x_iconst (v := (iI 1)) E dX7_isAlive_17 (by decide) ?_
    refine x_goto (tgt := 22) E dX7_isAlive_18 (by decide) ?_
    exact x_zretS E rfl hm dX7_isAlive_22
set_option maxRecDepth 100000 in
set_option maxHeartbeats 4000000 in
theorem c_X7_isValid (l : Launch) (D : va_G) (cs : vCs) (ad : Nat → Nat → Nat) {w : Wd} {a1 : Int32} {r : Int32} {w' : Wd} (hm : X7_isValid w a1 = some (r, w')) : Mc l yX7_isValid cX7_isValid 2 (some .boolean) 5 115 D cs ad [.ref (ad 12 0), .int a1] w (some (.int r)) w' := by
  refine Mc.of (by decide) (Nat.le_of_ble_eq_true rfl) ?_
  intro p e s m args below meth c E
  replace E : EV p m c cX7_isValid 2 s args RX7 yX7_isValid (some .boolean) meth D cs ad := E
  unfold X7_isValid at hm
  refine x_aload_n E dX7_isValid_0 rfl 0 rfl ?_
  refine x_iload_n E dX7_isValid_1 rfl 1 rfl ?_
  refine x_aload_n E dX7_isValid_2 rfl 0 rfl ?_
  refine x_gf (v := .int (rd w 12 0 8)) E fr_X7_133 rfl rfl dX7_isValid_3 ?_
  obtain ⟨w_1, hc, hm⟩ := ob_inv hm
  refine x_callV (As := [.int a1, .int (rd w 12 0 8)]) (rest := []) E my_X7_goAlong wG914 (c_X7_goAlong l D cs ad hc) rfl rfl rfl ⟨Nat.le_of_ble_eq_true rfl, Nat.le_of_ble_eq_true rfl⟩ (Nat.le_of_ble_eq_true rfl) dX7_isValid_6 ?_
  refine x_aload_n E dX7_isValid_9 rfl 0 rfl ?_
  refine x_gf (v := .int (rd w_1 12 0 14)) E fr_X7_155 rfl rfl dX7_isValid_10 ?_
  refine x_if_ne (tgt := 20) E dX7_isValid_13 (by decide) hm (fun _ hm => ?_) (fun _ hm => ?_)
  · refine x_iconst (v := (iI 0)) E dX7_isValid_20 (by decide) ?_
    exact x_zretS E rfl hm dX7_isValid_21
  · refine x_iconst (v := (iI 1)) E dX7_isValid_16 (by decide) ?_
    refine x_goto (tgt := 21) E dX7_isValid_17 (by decide) ?_
    exact x_zretS E rfl hm dX7_isValid_21
set_option maxRecDepth 100000 in
set_option maxHeartbeats 4000000 in
theorem c_X7_signsOf (l : Launch) (D : va_G) (cs : vCs) (ad : Nat → Nat → Nat) {w : Wd} {a1 : Int32} {r : Int32} {w' : Wd} (hm : X7_signsOf w a1 = some (r, w')) : Mc l yX7_signsOf cX7_signsOf 2 (some .int) 5 115 D cs ad [.ref (ad 12 0), .int a1] w (some (.int r)) w' := by
  refine Mc.of (by decide) (Nat.le_of_ble_eq_true rfl) ?_
  intro p e s m args below meth c E
  replace E : EV p m c cX7_signsOf 2 s args RX7 yX7_signsOf (some .int) meth D cs ad := E
  unfold X7_signsOf at hm
  refine x_aload_n E dX7_signsOf_0 rfl 0 rfl ?_
  refine x_iload_n E dX7_signsOf_1 rfl 1 rfl ?_
  refine x_aload_n E dX7_signsOf_2 rfl 0 rfl ?_
  refine x_gf (v := .int (rd w 12 0 8)) E fr_X7_133 rfl rfl dX7_signsOf_3 ?_
  obtain ⟨w_1, hc, hm⟩ := ob_inv hm
  refine x_callV (As := [.int a1, .int (rd w 12 0 8)]) (rest := []) E my_X7_goAlong wG914 (c_X7_goAlong l D cs ad hc) rfl rfl rfl ⟨Nat.le_of_ble_eq_true rfl, Nat.le_of_ble_eq_true rfl⟩ (Nat.le_of_ble_eq_true rfl) dX7_signsOf_6 ?_
  refine x_aload_n E dX7_signsOf_9 rfl 0 rfl ?_
  refine x_gf (v := .int (rd w_1 12 0 16)) E fr_X7_161 rfl rfl dX7_signsOf_10 ?_
  exact x_iretS E hm dX7_signsOf_13
set_option maxRecDepth 100000 in
set_option maxHeartbeats 4000000 in
theorem c_X7_weightOf (l : Launch) (D : va_G) (cs : vCs) (ad : Nat → Nat → Nat) {w : Wd} {a1 : Int32} {r : Int32} {w' : Wd} (hm : X7_weightOf w a1 = some (r, w')) : Mc l yX7_weightOf cX7_weightOf 2 (some .int) 5 115 D cs ad [.ref (ad 12 0), .int a1] w (some (.int r)) w' := by
  refine Mc.of (by decide) (Nat.le_of_ble_eq_true rfl) ?_
  intro p e s m args below meth c E
  replace E : EV p m c cX7_weightOf 2 s args RX7 yX7_weightOf (some .int) meth D cs ad := E
  unfold X7_weightOf at hm
  refine x_aload_n E dX7_weightOf_0 rfl 0 rfl ?_
  refine x_iload_n E dX7_weightOf_1 rfl 1 rfl ?_
  refine x_aload_n E dX7_weightOf_2 rfl 0 rfl ?_
  refine x_gf (v := .int (rd w 12 0 8)) E fr_X7_133 rfl rfl dX7_weightOf_3 ?_
  obtain ⟨w_1, hc, hm⟩ := ob_inv hm
  refine x_callV (As := [.int a1, .int (rd w 12 0 8)]) (rest := []) E my_X7_goAlong wG914 (c_X7_goAlong l D cs ad hc) rfl rfl rfl ⟨Nat.le_of_ble_eq_true rfl, Nat.le_of_ble_eq_true rfl⟩ (Nat.le_of_ble_eq_true rfl) dX7_weightOf_6 ?_
  refine x_aload_n E dX7_weightOf_9 rfl 0 rfl ?_
  refine x_gf (v := .int (rd w_1 12 0 17)) E fr_X7_164 rfl rfl dX7_weightOf_10 ?_
  exact x_iretS E hm dX7_weightOf_13
set_option maxRecDepth 100000 in
set_option maxHeartbeats 4000000 in
theorem c_X7_firstBad (l : Launch) (D : va_G) (cs : vCs) (ad : Nat → Nat → Nat) {w : Wd} {a1 : Int32} {r : Int32} {w' : Wd} (hm : X7_firstBad w a1 = some (r, w')) : Mc l yX7_firstBad cX7_firstBad 2 (some .int) 5 115 D cs ad [.ref (ad 12 0), .int a1] w (some (.int r)) w' := by
  refine Mc.of (by decide) (Nat.le_of_ble_eq_true rfl) ?_
  intro p e s m args below meth c E
  replace E : EV p m c cX7_firstBad 2 s args RX7 yX7_firstBad (some .int) meth D cs ad := E
  unfold X7_firstBad at hm
  refine x_aload_n E dX7_firstBad_0 rfl 0 rfl ?_
  refine x_iload_n E dX7_firstBad_1 rfl 1 rfl ?_
  refine x_aload_n E dX7_firstBad_2 rfl 0 rfl ?_
  refine x_gf (v := .int (rd w 12 0 8)) E fr_X7_133 rfl rfl dX7_firstBad_3 ?_
  obtain ⟨w_1, hc, hm⟩ := ob_inv hm
  refine x_callV (As := [.int a1, .int (rd w 12 0 8)]) (rest := []) E my_X7_goAlong wG914 (c_X7_goAlong l D cs ad hc) rfl rfl rfl ⟨Nat.le_of_ble_eq_true rfl, Nat.le_of_ble_eq_true rfl⟩ (Nat.le_of_ble_eq_true rfl) dX7_firstBad_6 ?_
  refine x_aload_n E dX7_firstBad_9 rfl 0 rfl ?_
  refine x_gf (v := .int (rd w_1 12 0 14)) E fr_X7_155 rfl rfl dX7_firstBad_10 ?_
  refine x_iconst (v := (iI (-1))) E dX7_firstBad_13 (by decide) ?_
  refine x_icmp_ne (tgt := 24) E dX7_firstBad_14 (by decide) hm (fun _ hm => ?_) (fun _ hm => ?_)
  · refine x_iconst (v := (iI (-1))) E dX7_firstBad_24 (by decide) ?_
    exact x_iretS E hm dX7_firstBad_25
  · refine x_aload_n E dX7_firstBad_17 rfl 0 rfl ?_
    refine x_gf (v := .int (rd w_1 12 0 18)) E fr_X7_167 rfl rfl dX7_firstBad_18 ?_
    refine x_goto (tgt := 25) E dX7_firstBad_21 (by decide) ?_
    exact x_iretS E hm dX7_firstBad_25
set_option maxRecDepth 100000 in
set_option maxHeartbeats 4000000 in
theorem c_X7_isState (l : Launch) (D : va_G) (cs : vCs) (ad : Nat → Nat → Nat) {w : Wd} {a0 : Int32} {a1 : Int32} {r : Int32} (hm : X7_isState a0 a1 = r) : Mc l yX7_isState cX7_isState 2 (some .boolean) 0 0 D cs ad [.int a0, .int a1] w (some (.int r)) w := by
  refine Mc.of (by decide) (Nat.le_of_ble_eq_true rfl) ?_
  intro p e s m args below meth c E
  replace E : EV p m c cX7_isState 2 s args RX7 yX7_isState (some .boolean) meth D cs ad := E
  unfold X7_isState at hm
  refine x_iload_n E dX7_isState_0 rfl 0 rfl ?_
  refine x_iconst (v := (iI 2)) E dX7_isState_1 (by decide) ?_
  refine x_icmp_eq (tgt := 18) E dX7_isState_2 (by decide) hm (fun _ hm => ?_) (fun _ hm => ?_)
  · refine x_iconst (v := (iI 1)) E dX7_isState_18 (by decide) ?_
    refine x_goto (tgt := 23) E dX7_isState_19 (by decide) ?_
    exact x_zretT E rfl hm dX7_isState_23
  · refine x_iload_n E dX7_isState_5 rfl 1 rfl ?_
    refine x_if_eq (tgt := 18) E dX7_isState_6 (by decide) hm (fun _ hm => ?_) (fun _ hm => ?_)
    · refine x_iconst (v := (iI 1)) E dX7_isState_18 (by decide) ?_
      refine x_goto (tgt := 23) E dX7_isState_19 (by decide) ?_
      exact x_zretT E rfl hm dX7_isState_23
    · refine x_iload_n E dX7_isState_9 rfl 0 rfl ?_
      refine x_if_eq (tgt := 22) E dX7_isState_10 (by decide) hm (fun _ hm => ?_) (fun _ hm => ?_)
      · refine x_iconst (v := (iI 0)) E dX7_isState_22 (by decide) ?_
        exact x_zretT E rfl hm dX7_isState_23
      · refine x_iload_n E dX7_isState_13 rfl 1 rfl ?_
        refine x_iconst (v := (iI 1)) E dX7_isState_14 (by decide) ?_
        refine x_icmp_ne (tgt := 22) E dX7_isState_15 (by decide) hm (fun _ hm => ?_) (fun _ hm => ?_)
        · refine x_iconst (v := (iI 0)) E dX7_isState_22 (by decide) ?_
          exact x_zretT E rfl hm dX7_isState_23
        · refine x_iconst (v := (iI 1)) E dX7_isState_18 (by decide) ?_
          refine x_goto (tgt := 23) E dX7_isState_19 (by decide) ?_
          exact x_zretT E rfl hm dX7_isState_23
set_option maxRecDepth 100000 in
set_option maxHeartbeats 4000000 in
theorem c_X7_goBackCan (l : Launch) (D : va_G) (cs : vCs) (ad : Nat → Nat → Nat) {w : Wd} {a1 : Int32} {w' : Wd} (hm : X7_goBackCan w a1 = some w') : Mc l yX7_goBackCan cX7_goBackCan 5 none 3 69 D cs ad [.ref (ad 12 0), .int a1] w none w' := by
  refine Mc.of (by decide) (Nat.le_of_ble_eq_true rfl) ?_
  intro p e s m args below meth c E
  replace E : EV p m c cX7_goBackCan 5 s args RX7 yX7_goBackCan none meth D cs ad := E
  have hL16 : ∀ (fuel : Nat) (k86 : Int32 → Int32 → Wd → Option Wd) (hk86 : ∀ (b1 : Int32) (b2 : Int32) (w : Wd), k86 b1 b2 w = some w' → XV p l e { frames := 3, cells := 0, slots := 0, locals := 69 } s m args below meth c 5 D cs ad (MQ below (xQ D cs ad none w') args s 0 0 (xF ad)) 86 [(0, .ref (ad 12 0)), (1, .int b1), (2, .int b2)] [] w) (b1 : Int32) (b2 : Int32) (b3 : Int32) (w : Wd), X7_goBackCan_L16 fuel k86 b1 b2 b3 w = some w' → XV p l e { frames := 3, cells := 0, slots := 0, locals := 69 } s m args below meth c 5 D cs ad (MQ below (xQ D cs ad none w') args s 0 0 (xF ad)) 16 [(0, .ref (ad 12 0)), (1, .int b1), (2, .int b2), (3, .int b3)] [] w := by
    intro fuel
    induction fuel with
    | zero => intro k86 hk86 b1 b2 b3 w hm; cases hm
    | succ fuel ih =>
      intro k86 hk86 b1 b2 b3 w hm
      rw [X7_goBackCan_L16] at hm
      refine x_iload_n E dX7_goBackCan_16 rfl 3 rfl ?_
      refine x_bipush (v := (iI 8)) E dX7_goBackCan_17 (by decide) ?_
      refine x_icmp_ge (tgt := 86) E dX7_goBackCan_19 (by decide) hm (fun _ hm => ?_) (fun _ hm => ?_)
      · exact x_weak [0, 1, 2] rfl (hk86 b1 b2 w hm)
      · refine x_aload_n E dX7_goBackCan_22 rfl 0 rfl ?_
        refine x_gf (v := .ref (ad 12 1)) E fr_X7_7 rfl rfl dX7_goBackCan_23 ?_
        refine x_iload_n E dX7_goBackCan_26 rfl 1 rfl ?_
        refine x_iald E rfl rfl (by decide) dX7_goBackCan_27 hm (fun x_2 hm => ?_)
        refine x_iload_n E dX7_goBackCan_28 rfl 2 rfl ?_
        refine x_callS (As := [.int x_2, .int b2]) (rest := []) E my_X7_isState wG970 (c_X7_isState l D cs ad rfl) rfl ⟨Nat.le_of_ble_eq_true rfl, Nat.le_of_ble_eq_true rfl⟩ (Nat.le_of_ble_eq_true rfl) dX7_goBackCan_29 ?_
        refine x_if_eq (tgt := 86) E dX7_goBackCan_32 (by decide) hm (fun _ hm => ?_) (fun _ hm => ?_)
        · exact x_weak [0, 1, 2] rfl (hk86 b1 b2 w hm)
        · refine x_aload_n E dX7_goBackCan_35 rfl 0 rfl ?_
          refine x_iload_n E dX7_goBackCan_36 rfl 1 rfl ?_
          refine x_iload_n E dX7_goBackCan_37 rfl 2 rfl ?_
          refine x_iload_n E dX7_goBackCan_38 rfl 3 rfl ?_
          obtain ⟨r_3, w_4, hc, hm⟩ := bI_inv hm
          refine x_callV (As := [.int b1, .int b2, .int b3]) (rest := []) E my_X7_step wG926 (c_X7_step l D cs ad hc) rfl rfl rfl ⟨Nat.le_of_ble_eq_true rfl, Nat.le_of_ble_eq_true rfl⟩ (Nat.le_of_ble_eq_true rfl) dX7_goBackCan_39 ?_
          refine x_istore (lv' := [(4, .int r_3), (0, .ref (ad 12 0)), (1, .int b1), (2, .int b2), (3, .int b3)]) E dX7_goBackCan_42 (by decide) rfl ?_
          refine x_aload_n E dX7_goBackCan_44 rfl 1 rfl ?_
          refine x_gf (v := .ref (ad 12 12)) E fr_X7_48 rfl rfl dX7_goBackCan_45 ?_
          refine x_iload_n E dX7_goBackCan_48 rfl 3 rfl ?_
          refine x_aload_n E dX7_goBackCan_49 rfl 1 rfl ?_
          refine x_gf (v := .ref (ad 12 12)) E fr_X7_48 rfl rfl dX7_goBackCan_50 ?_
          refine x_iload_n E dX7_goBackCan_53 rfl 3 rfl ?_
          refine x_zald E rfl rfl (by decide) dX7_goBackCan_54 hm (fun x_5 hm => ?_)
          refine x_if_ne (tgt := 74) E dX7_goBackCan_55 (by decide) hm (fun _ hm => ?_) (fun _ hm => ?_)
          · refine x_iconst (v := (iI 1)) E dX7_goBackCan_74 (by decide) ?_
            refine x_goto (tgt := 79) E dX7_goBackCan_75 (by decide) ?_
            refine x_zast E rfl rfl (by decide) dX7_goBackCan_79 hm (fun w_6 hm => ?_)
            refine x_iincB (lv' := fun x_7 => [(3, .int x_7), (4, .int r_3), (0, .ref (ad 12 0)), (1, .int b1), (2, .int b2)]) (j := 4) E dX7_goBackCan_80 rfl rfl (by decide) (fun _ => rfl) hm (fun x_7 hm => ?_)
            refine x_goto (tgt := 16) E dX7_goBackCan_83 (by decide) ?_
            exact x_weak [2, 3, 4, 0] rfl ((ih _ hk86) b1 b2 x_7 w_6 hm)
          · refine x_iload E dX7_goBackCan_58 0 rfl ?_
            refine x_iconst (v := (iI (-1))) E dX7_goBackCan_60 (by decide) ?_
            refine x_icmp_eq (tgt := 78) E dX7_goBackCan_61 (by decide) hm (fun _ hm => ?_) (fun _ hm => ?_)
            · refine x_iconst (v := (iI 0)) E dX7_goBackCan_78 (by decide) ?_
              refine x_zast E rfl rfl (by decide) dX7_goBackCan_79 hm (fun w_8 hm => ?_)
              refine x_iincB (lv' := fun x_9 => [(3, .int x_9), (4, .int r_3), (0, .ref (ad 12 0)), (1, .int b1), (2, .int b2)]) (j := 4) E dX7_goBackCan_80 rfl rfl (by decide) (fun _ => rfl) hm (fun x_9 hm => ?_)
              refine x_goto (tgt := 16) E dX7_goBackCan_83 (by decide) ?_
              exact x_weak [2, 3, 4, 0] rfl ((ih _ hk86) b1 b2 x_9 w_8 hm)
            · refine x_aload_n E dX7_goBackCan_64 rfl 1 rfl ?_
              refine x_gf (v := .ref (ad 12 11)) E fr_X7_45 rfl rfl dX7_goBackCan_65 ?_
              refine x_iload E dX7_goBackCan_68 0 rfl ?_
              refine x_zald E rfl rfl (by decide) dX7_goBackCan_70 hm (fun x_10 hm => ?_)
              refine x_if_eq (tgt := 78) E dX7_goBackCan_71 (by decide) hm (fun _ hm => ?_) (fun _ hm => ?_)
              · refine x_iconst (v := (iI 0)) E dX7_goBackCan_78 (by decide) ?_
                refine x_zast E rfl rfl (by decide) dX7_goBackCan_79 hm (fun w_11 hm => ?_)
                refine x_iincB (lv' := fun x_12 => [(3, .int x_12), (4, .int r_3), (0, .ref (ad 12 0)), (1, .int b1), (2, .int b2)]) (j := 4) E dX7_goBackCan_80 rfl rfl (by decide) (fun _ => rfl) hm (fun x_12 hm => ?_)
                refine x_goto (tgt := 16) E dX7_goBackCan_83 (by decide) ?_
                exact x_weak [2, 3, 4, 0] rfl ((ih _ hk86) b1 b2 x_12 w_11 hm)
              · refine x_iconst (v := (iI 1)) E dX7_goBackCan_74 (by decide) ?_
                refine x_goto (tgt := 79) E dX7_goBackCan_75 (by decide) ?_
                refine x_zast E rfl rfl (by decide) dX7_goBackCan_79 hm (fun w_13 hm => ?_)
                refine x_iincB (lv' := fun x_14 => [(3, .int x_14), (4, .int r_3), (0, .ref (ad 12 0)), (1, .int b1), (2, .int b2)]) (j := 4) E dX7_goBackCan_80 rfl rfl (by decide) (fun _ => rfl) hm (fun x_14 hm => ?_)
                refine x_goto (tgt := 16) E dX7_goBackCan_83 (by decide) ?_
                exact x_weak [2, 3, 4, 0] rfl ((ih _ hk86) b1 b2 x_14 w_13 hm)
  have hL86 : ∀ (k2 : Int32 → Int32 → Wd → Option Wd) (hk2 : ∀ (b1 : Int32) (b2 : Int32) (w : Wd), k2 b1 b2 w = some w' → XV p l e { frames := 3, cells := 0, slots := 0, locals := 69 } s m args below meth c 5 D cs ad (MQ below (xQ D cs ad none w') args s 0 0 (xF ad)) 2 [(0, .ref (ad 12 0)), (1, .int b1), (2, .int b2)] [] w) (b1 : Int32) (b2 : Int32) (w : Wd), X7_goBackCan_L86 k2 b1 b2 w = some w' → XV p l e { frames := 3, cells := 0, slots := 0, locals := 69 } s m args below meth c 5 D cs ad (MQ below (xQ D cs ad none w') args s 0 0 (xF ad)) 86 [(0, .ref (ad 12 0)), (1, .int b1), (2, .int b2)] [] w := by
    intro k2 hk2 b1 b2 w hm
    unfold X7_goBackCan_L86 at hm
    refine x_iincB (lv' := fun x_15 => [(2, .int x_15), (0, .ref (ad 12 0)), (1, .int b1)]) (j := 2) E dX7_goBackCan_86 rfl rfl (by decide) (fun _ => rfl) hm (fun x_15 hm => ?_)
    refine x_goto (tgt := 2) E dX7_goBackCan_89 (by decide) ?_
    exact x_weak [1, 2, 0] rfl (hk2 b1 x_15 w hm)
  have hL2 : ∀ (fuel : Nat) (k92 : Wd → Option Wd) (hk92 : ∀ (w : Wd), k92 w = some w' → XV p l e { frames := 3, cells := 0, slots := 0, locals := 69 } s m args below meth c 5 D cs ad (MQ below (xQ D cs ad none w') args s 0 0 (xF ad)) 92 [(0, .ref (ad 12 0))] [] w) (b1 : Int32) (b2 : Int32) (w : Wd), X7_goBackCan_L2 fuel k92 b1 b2 w = some w' → XV p l e { frames := 3, cells := 0, slots := 0, locals := 69 } s m args below meth c 5 D cs ad (MQ below (xQ D cs ad none w') args s 0 0 (xF ad)) 2 [(0, .ref (ad 12 0)), (1, .int b1), (2, .int b2)] [] w := by
    intro fuel
    induction fuel with
    | zero => intro k92 hk92 b1 b2 w hm; cases hm
    | succ fuel ih =>
      intro k92 hk92 b1 b2 w hm
      rw [X7_goBackCan_L2] at hm
      refine x_iload_n E dX7_goBackCan_2 rfl 2 rfl ?_
      refine x_iconst (v := (iI 5)) E dX7_goBackCan_3 (by decide) ?_
      refine x_icmp_ge (tgt := 92) E dX7_goBackCan_4 (by decide) hm (fun _ hm => ?_) (fun _ hm => ?_)
      · exact x_weak [0] rfl (hk92 w hm)
      · refine x_aload_n E dX7_goBackCan_7 rfl 0 rfl ?_
        refine x_gf (v := .ref (ad 12 12)) E fr_X7_48 rfl rfl dX7_goBackCan_8 ?_
        refine x_iload_n E dX7_goBackCan_11 rfl 2 rfl ?_
        refine x_iconst (v := (iI 0)) E dX7_goBackCan_12 (by decide) ?_
        refine x_zast E rfl rfl (by decide) dX7_goBackCan_13 hm (fun w_1 hm => ?_)
        refine x_iconst (v := (iI 0)) E dX7_goBackCan_14 (by decide) ?_
        refine x_istore_n (lv' := [(3, .int (iI 0)), (0, .ref (ad 12 0)), (1, .int b1), (2, .int b2)]) E dX7_goBackCan_15 rfl (by decide) rfl ?_
        exact x_weak [1, 2, 3, 0] rfl ((hL16 1000 _ (hL86 _ (ih _ hk92))) b1 b2 (iI 0) w_1 hm)
  have hL94 : ∀ (fuel : Nat) (b2 : Int32) (w : Wd), X7_goBackCan_L94 fuel b2 w = some w' → XV p l e { frames := 3, cells := 0, slots := 0, locals := 69 } s m args below meth c 5 D cs ad (MQ below (xQ D cs ad none w') args s 0 0 (xF ad)) 94 [(0, .ref (ad 12 0)), (2, .int b2)] [] w := by
    intro fuel
    induction fuel with
    | zero => intro b2 w hm; cases hm
    | succ fuel ih =>
      intro b2 w hm
      rw [X7_goBackCan_L94] at hm
      refine x_iload_n E dX7_goBackCan_94 rfl 1 rfl ?_
      refine x_iconst (v := (iI 5)) E dX7_goBackCan_95 (by decide) ?_
      refine x_icmp_ge (tgt := 117) E dX7_goBackCan_96 (by decide) hm (fun _ hm => ?_) (fun _ hm => ?_)
      · exact x_vretS E hm dX7_goBackCan_117
      · refine x_aload_n E dX7_goBackCan_99 rfl 0 rfl ?_
        refine x_gf (v := .ref (ad 12 11)) E fr_X7_45 rfl rfl dX7_goBackCan_100 ?_
        refine x_iload_n E dX7_goBackCan_103 rfl 1 rfl ?_
        refine x_aload_n E dX7_goBackCan_104 rfl 0 rfl ?_
        refine x_gf (v := .ref (ad 12 12)) E fr_X7_48 rfl rfl dX7_goBackCan_105 ?_
        refine x_iload_n E dX7_goBackCan_108 rfl 1 rfl ?_
        refine x_zald E rfl rfl (by decide) dX7_goBackCan_109 hm (fun x_16 hm => ?_)
        refine x_zast E rfl rfl (by decide) dX7_goBackCan_110 hm (fun w_17 hm => ?_)
        refine x_iincB (lv' := fun x_18 => [(2, .int x_18), (0, .ref (ad 12 0))]) (j := 1) E dX7_goBackCan_111 rfl rfl (by decide) (fun _ => rfl) hm (fun x_18 hm => ?_)
        refine x_goto (tgt := 94) E dX7_goBackCan_114 (by decide) ?_
        exact x_weak [1, 0] rfl ((ih) x_18 w_17 hm)
  have hL92 : ∀ (w : Wd), X7_goBackCan_L92 w = some w' → XV p l e { frames := 3, cells := 0, slots := 0, locals := 69 } s m args below meth c 5 D cs ad (MQ below (xQ D cs ad none w') args s 0 0 (xF ad)) 92 [(0, .ref (ad 12 0))] [] w := by
    intro w hm
    unfold X7_goBackCan_L92 at hm
    refine x_iconst (v := (iI 0)) E dX7_goBackCan_92 (by decide) ?_
    refine x_istore_n (lv' := [(2, .int (iI 0)), (0, .ref (ad 12 0))]) E dX7_goBackCan_93 rfl (by decide) rfl ?_
    exact x_weak [1, 0] rfl ((hL94 1000) (iI 0) w hm)
  unfold X7_goBackCan at hm
  refine x_iconst (v := (iI 0)) E dX7_goBackCan_0 (by decide) ?_
  refine x_istore_n (lv' := [(2, .int (iI 0)), (0, .ref (ad 12 0)), (1, .int a1)]) E dX7_goBackCan_1 rfl (by decide) rfl ?_
  exact x_weak [1, 2, 0] rfl ((hL2 1000 _ (hL92)) a1 (iI 0) w hm)
set_option maxRecDepth 100000 in
set_option maxHeartbeats 4000000 in
theorem c_X7_layCan (l : Launch) (D : va_G) (cs : vCs) (ad : Nat → Nat → Nat) {w : Wd} {a1 : Int32} {w' : Wd} (hm : X7_layCan w a1 = some w') : Mc l yX7_layCan cX7_layCan 4 none 5 115 D cs ad [.ref (ad 12 0), .int a1] w none w' := by
  refine Mc.of (by decide) (Nat.le_of_ble_eq_true rfl) ?_
  intro p e s m args below meth c E
  replace E : EV p m c cX7_layCan 4 s args RX7 yX7_layCan none meth D cs ad := E
  have hL2 : ∀ (fuel : Nat) (k28 : Int32 → Wd → Option Wd) (hk28 : ∀ (b1 : Int32) (w : Wd), k28 b1 w = some w' → XV p l e { frames := 5, cells := 0, slots := 0, locals := 115 } s m args below meth c 4 D cs ad (MQ below (xQ D cs ad none w') args s 0 0 (xF ad)) 28 [(0, .ref (ad 12 0)), (1, .int b1)] [] w) (b1 : Int32) (b2 : Int32) (w : Wd), X7_layCan_L2 fuel k28 b1 b2 w = some w' → XV p l e { frames := 5, cells := 0, slots := 0, locals := 115 } s m args below meth c 4 D cs ad (MQ below (xQ D cs ad none w') args s 0 0 (xF ad)) 2 [(0, .ref (ad 12 0)), (1, .int b1), (2, .int b2)] [] w := by
    intro fuel
    induction fuel with
    | zero => intro k28 hk28 b1 b2 w hm; cases hm
    | succ fuel ih =>
      intro k28 hk28 b1 b2 w hm
      rw [X7_layCan_L2] at hm
      refine x_iload_n E dX7_layCan_2 rfl 2 rfl ?_
      refine x_iconst (v := (iI 5)) E dX7_layCan_3 (by decide) ?_
      refine x_icmp_ge (tgt := 28) E dX7_layCan_4 (by decide) hm (fun _ hm => ?_) (fun _ hm => ?_)
      · exact x_weak [0, 1] rfl (hk28 b1 w hm)
      · refine x_aload_n E dX7_layCan_7 rfl 0 rfl ?_
        refine x_gf (v := .ref (ad 12 11)) E fr_X7_45 rfl rfl dX7_layCan_8 ?_
        refine x_iload_n E dX7_layCan_11 rfl 2 rfl ?_
        refine x_iload_n E dX7_layCan_12 rfl 2 rfl ?_
        refine x_if_ne (tgt := 20) E dX7_layCan_13 (by decide) hm (fun _ hm => ?_) (fun _ hm => ?_)
        · refine x_iconst (v := (iI 0)) E dX7_layCan_20 (by decide) ?_
          refine x_zast E rfl rfl (by decide) dX7_layCan_21 hm (fun w_1 hm => ?_)
          refine x_iincB (lv' := fun x_2 => [(2, .int x_2), (0, .ref (ad 12 0)), (1, .int b1)]) (j := 2) E dX7_layCan_22 rfl rfl (by decide) (fun _ => rfl) hm (fun x_2 hm => ?_)
          refine x_goto (tgt := 2) E dX7_layCan_25 (by decide) ?_
          exact x_weak [1, 2, 0] rfl ((ih _ hk28) b1 x_2 w_1 hm)
        · refine x_iconst (v := (iI 1)) E dX7_layCan_16 (by decide) ?_
          refine x_goto (tgt := 21) E dX7_layCan_17 (by decide) ?_
          refine x_zast E rfl rfl (by decide) dX7_layCan_21 hm (fun w_3 hm => ?_)
          refine x_iincB (lv' := fun x_4 => [(2, .int x_4), (0, .ref (ad 12 0)), (1, .int b1)]) (j := 2) E dX7_layCan_22 rfl rfl (by decide) (fun _ => rfl) hm (fun x_4 hm => ?_)
          refine x_goto (tgt := 2) E dX7_layCan_25 (by decide) ?_
          exact x_weak [1, 2, 0] rfl ((ih _ hk28) b1 x_4 w_3 hm)
  have hL30 : ∀ (fuel : Nat) (b1 : Int32) (b2 : Int32) (w : Wd), X7_layCan_L30 fuel b1 b2 w = some w' → XV p l e { frames := 5, cells := 0, slots := 0, locals := 115 } s m args below meth c 4 D cs ad (MQ below (xQ D cs ad none w') args s 0 0 (xF ad)) 30 [(0, .ref (ad 12 0)), (1, .int b1), (2, .int b2)] [] w := by
    intro fuel
    induction fuel with
    | zero => intro b1 b2 w hm; cases hm
    | succ fuel ih =>
      intro b1 b2 w hm
      rw [X7_layCan_L30] at hm
      refine x_iload_n E dX7_layCan_30 rfl 2 rfl ?_
      refine x_aload_n E dX7_layCan_31 rfl 0 rfl ?_
      refine x_gf (v := .int (rd w 12 0 7)) E fr_X7_22 rfl rfl dX7_layCan_32 ?_
      refine x_icmp_gt (tgt := 101) E dX7_layCan_35 (by decide) hm (fun _ hm => ?_) (fun _ hm => ?_)
      · exact x_vretS E hm dX7_layCan_101
      · refine x_aload_n E dX7_layCan_38 rfl 0 rfl ?_
        refine x_gf (v := .int (rd w 12 0 7)) E fr_X7_22 rfl rfl dX7_layCan_39 ?_
        refine x_iload_n E dX7_layCan_42 rfl 2 rfl ?_
        refine x_isub E dX7_layCan_43 ?_
        refine x_bI hm (fun x_5 hm => ?_)
        refine x_istore_n (lv' := [(3, .int x_5), (0, .ref (ad 12 0)), (1, .int b1), (2, .int b2)]) E dX7_layCan_44 rfl (by decide) rfl ?_
        refine x_iload_n E dX7_layCan_45 rfl 0 rfl ?_
        refine x_aload_n E dX7_layCan_46 rfl 1 rfl ?_
        refine x_gf (v := .int (rd w 12 0 8)) E fr_X7_133 rfl rfl dX7_layCan_47 ?_
        refine x_icmp_gt (tgt := 90) E dX7_layCan_50 (by decide) hm (fun _ hm => ?_) (fun _ hm => ?_)
        · refine x_aload_n E dX7_layCan_90 rfl 1 rfl ?_
          refine x_iload_n E dX7_layCan_91 rfl 2 rfl ?_
          obtain ⟨w_6, hc, hm⟩ := ob_inv hm
          refine x_callV (As := [.int b1]) (rest := []) E my_X7_goBackCan wG966 (c_X7_goBackCan l D cs ad hc) rfl rfl rfl ⟨Nat.le_of_ble_eq_true rfl, Nat.le_of_ble_eq_true rfl⟩ (Nat.le_of_ble_eq_true rfl) dX7_layCan_92 ?_
          refine x_iincB (lv' := fun x_7 => [(2, .int x_7), (3, .int x_5), (0, .ref (ad 12 0)), (1, .int b1)]) (j := 3) E dX7_layCan_95 rfl rfl (by decide) (fun _ => rfl) hm (fun x_7 hm => ?_)
          refine x_goto (tgt := 30) E dX7_layCan_98 (by decide) ?_
          exact x_weak [2, 3, 0] rfl ((ih) b1 x_7 w_6 hm)
        · refine x_aload_n E dX7_layCan_53 rfl 1 rfl ?_
          refine x_iload_n E dX7_layCan_54 rfl 2 rfl ?_
          refine x_iload_n E dX7_layCan_55 rfl 0 rfl ?_
          obtain ⟨w_8, hc, hm⟩ := ob_inv hm
          refine x_callV (As := [.int b1, .int x_5]) (rest := []) E my_X7_goAlong wG914 (c_X7_goAlong l D cs ad hc) rfl rfl rfl ⟨Nat.le_of_ble_eq_true rfl, Nat.le_of_ble_eq_true rfl⟩ (Nat.le_of_ble_eq_true rfl) dX7_layCan_56 ?_
          refine x_aload_n E dX7_layCan_59 rfl 1 rfl ?_
          refine x_gf (v := .ref (ad 12 10)) E fr_X7_41 rfl rfl dX7_layCan_60 ?_
          refine x_iload_n E dX7_layCan_63 rfl 0 rfl ?_
          refine x_aload_n E dX7_layCan_64 rfl 1 rfl ?_
          refine x_gf (v := .int (rd w_8 12 0 14)) E fr_X7_155 rfl rfl dX7_layCan_65 ?_
          refine x_iconst (v := (iI (-1))) E dX7_layCan_68 (by decide) ?_
          refine x_icmp_eq (tgt := 88) E dX7_layCan_69 (by decide) hm (fun _ hm => ?_) (fun _ hm => ?_)
          · refine x_iconst (v := (iI 0)) E dX7_layCan_88 (by decide) ?_
            refine x_zast E rfl rfl (by decide) dX7_layCan_89 hm (fun w_9 hm => ?_)
            refine x_aload_n E dX7_layCan_90 rfl 1 rfl ?_
            refine x_iload_n E dX7_layCan_91 rfl 2 rfl ?_
            obtain ⟨w_10, hc, hm⟩ := ob_inv hm
            refine x_callV (As := [.int b1]) (rest := []) E my_X7_goBackCan wG966 (c_X7_goBackCan l D cs ad hc) rfl rfl rfl ⟨Nat.le_of_ble_eq_true rfl, Nat.le_of_ble_eq_true rfl⟩ (Nat.le_of_ble_eq_true rfl) dX7_layCan_92 ?_
            refine x_iincB (lv' := fun x_11 => [(2, .int x_11), (3, .int x_5), (0, .ref (ad 12 0)), (1, .int b1)]) (j := 3) E dX7_layCan_95 rfl rfl (by decide) (fun _ => rfl) hm (fun x_11 hm => ?_)
            refine x_goto (tgt := 30) E dX7_layCan_98 (by decide) ?_
            exact x_weak [2, 3, 0] rfl ((ih) b1 x_11 w_10 hm)
          · refine x_aload_n E dX7_layCan_72 rfl 1 rfl ?_
            refine x_gf (v := .ref (ad 12 11)) E fr_X7_45 rfl rfl dX7_layCan_73 ?_
            refine x_aload_n E dX7_layCan_76 rfl 1 rfl ?_
            refine x_gf (v := .int (rd w_8 12 0 14)) E fr_X7_155 rfl rfl dX7_layCan_77 ?_
            refine x_zald E rfl rfl (by decide) dX7_layCan_80 hm (fun x_12 hm => ?_)
            refine x_if_eq (tgt := 88) E dX7_layCan_81 (by decide) hm (fun _ hm => ?_) (fun _ hm => ?_)
            · refine x_iconst (v := (iI 0)) E dX7_layCan_88 (by decide) ?_
              refine x_zast E rfl rfl (by decide) dX7_layCan_89 hm (fun w_13 hm => ?_)
              refine x_aload_n E dX7_layCan_90 rfl 1 rfl ?_
              refine x_iload_n E dX7_layCan_91 rfl 2 rfl ?_
              obtain ⟨w_14, hc, hm⟩ := ob_inv hm
              refine x_callV (As := [.int b1]) (rest := []) E my_X7_goBackCan wG966 (c_X7_goBackCan l D cs ad hc) rfl rfl rfl ⟨Nat.le_of_ble_eq_true rfl, Nat.le_of_ble_eq_true rfl⟩ (Nat.le_of_ble_eq_true rfl) dX7_layCan_92 ?_
              refine x_iincB (lv' := fun x_15 => [(2, .int x_15), (3, .int x_5), (0, .ref (ad 12 0)), (1, .int b1)]) (j := 3) E dX7_layCan_95 rfl rfl (by decide) (fun _ => rfl) hm (fun x_15 hm => ?_)
              refine x_goto (tgt := 30) E dX7_layCan_98 (by decide) ?_
              exact x_weak [2, 3, 0] rfl ((ih) b1 x_15 w_14 hm)
            · refine x_iconst (v := (iI 1)) E dX7_layCan_84 (by decide) ?_
              refine x_goto (tgt := 89) E dX7_layCan_85 (by decide) ?_
              refine x_zast E rfl rfl (by decide) dX7_layCan_89 hm (fun w_16 hm => ?_)
              refine x_aload_n E dX7_layCan_90 rfl 1 rfl ?_
              refine x_iload_n E dX7_layCan_91 rfl 2 rfl ?_
              obtain ⟨w_17, hc, hm⟩ := ob_inv hm
              refine x_callV (As := [.int b1]) (rest := []) E my_X7_goBackCan wG966 (c_X7_goBackCan l D cs ad hc) rfl rfl rfl ⟨Nat.le_of_ble_eq_true rfl, Nat.le_of_ble_eq_true rfl⟩ (Nat.le_of_ble_eq_true rfl) dX7_layCan_92 ?_
              refine x_iincB (lv' := fun x_18 => [(2, .int x_18), (3, .int x_5), (0, .ref (ad 12 0)), (1, .int b1)]) (j := 3) E dX7_layCan_95 rfl rfl (by decide) (fun _ => rfl) hm (fun x_18 hm => ?_)
              refine x_goto (tgt := 30) E dX7_layCan_98 (by decide) ?_
              exact x_weak [2, 3, 0] rfl ((ih) b1 x_18 w_17 hm)
  have hL28 : ∀ (b1 : Int32) (w : Wd), X7_layCan_L28 b1 w = some w' → XV p l e { frames := 5, cells := 0, slots := 0, locals := 115 } s m args below meth c 4 D cs ad (MQ below (xQ D cs ad none w') args s 0 0 (xF ad)) 28 [(0, .ref (ad 12 0)), (1, .int b1)] [] w := by
    intro b1 w hm
    unfold X7_layCan_L28 at hm
    refine x_iconst (v := (iI 0)) E dX7_layCan_28 (by decide) ?_
    refine x_istore_n (lv' := [(2, .int (iI 0)), (0, .ref (ad 12 0)), (1, .int b1)]) E dX7_layCan_29 rfl (by decide) rfl ?_
    exact x_weak [1, 2, 0] rfl ((hL30 1000) b1 (iI 0) w hm)
  unfold X7_layCan at hm
  refine x_iconst (v := (iI 0)) E dX7_layCan_0 (by decide) ?_
  refine x_istore_n (lv' := [(2, .int (iI 0)), (0, .ref (ad 12 0)), (1, .int a1)]) E dX7_layCan_1 rfl (by decide) rfl ?_
  exact x_weak [1, 2, 0] rfl ((hL2 1000 _ (hL28)) a1 (iI 0) w hm)
set_option maxRecDepth 100000 in
set_option maxHeartbeats 4000000 in
theorem c_X7_beginBack (l : Launch) (D : va_G) (cs : vCs) (ad : Nat → Nat → Nat) {w : Wd} {w' : Wd} (hm : X7_beginBack w = some w') : Mc l yX7_beginBack cX7_beginBack 2 none 0 0 D cs ad [.ref (ad 12 0)] w none w' := by
  refine Mc.of (by decide) (Nat.le_of_ble_eq_true rfl) ?_
  intro p e s m args below meth c E
  replace E : EV p m c cX7_beginBack 2 s args RX7 yX7_beginBack none meth D cs ad := E
  have hL2 : ∀ (fuel : Nat) (b1 : Int32) (w : Wd), X7_beginBack_L2 fuel b1 w = some w' → XV p l e { frames := 0, cells := 0, slots := 0, locals := 0 } s m args below meth c 2 D cs ad (MQ below (xQ D cs ad none w') args s 0 0 (xF ad)) 2 [(0, .ref (ad 12 0)), (1, .int b1)] [] w := by
    intro fuel
    induction fuel with
    | zero => intro b1 w hm; cases hm
    | succ fuel ih =>
      intro b1 w hm
      rw [X7_beginBack_L2] at hm
      refine x_iload_n E dX7_beginBack_2 rfl 1 rfl ?_
      refine x_sipush (v := (iI 225)) E dX7_beginBack_3 (by decide) ?_
      refine x_icmp_ge (tgt := 43) E dX7_beginBack_6 (by decide) hm (fun _ hm => ?_) (fun _ hm => ?_)
      · exact x_vretS E hm dX7_beginBack_43
      · refine x_aload_n E dX7_beginBack_9 rfl 0 rfl ?_
        refine x_gf (v := .ref (ad 12 8)) E fr_X7_35 rfl rfl dX7_beginBack_10 ?_
        refine x_iload_n E dX7_beginBack_13 rfl 1 rfl ?_
        refine x_iload_n E dX7_beginBack_14 rfl 1 rfl ?_
        refine x_bipush (v := (iI 45)) E dX7_beginBack_15 (by decide) ?_
        refine x_idiv E dX7_beginBack_17 (by decide) ?_
        refine x_if_ne (tgt := 34) E dX7_beginBack_18 (by decide) hm (fun _ hm => ?_) (fun _ hm => ?_)
        · refine x_ldc (v := (iI (-100000))) E wG981 dX7_beginBack_34 ?_
          refine x_iast E rfl rfl (by decide) dX7_beginBack_36 hm (fun w_1 hm => ?_)
          refine x_iincB (lv' := fun x_2 => [(1, .int x_2), (0, .ref (ad 12 0))]) (j := 1) E dX7_beginBack_37 rfl rfl (by decide) (fun _ => rfl) hm (fun x_2 hm => ?_)
          refine x_goto (tgt := 2) E dX7_beginBack_40 (by decide) ?_
          exact x_weak [1, 0] rfl ((ih) x_2 w_1 hm)
        · refine x_iload_n E dX7_beginBack_21 rfl 1 rfl ?_
          refine x_bipush (v := (iI 15)) E dX7_beginBack_22 (by decide) ?_
          refine x_irem E dX7_beginBack_24 (by decide) ?_
          refine x_iconst (v := (iI 3)) E dX7_beginBack_25 (by decide) ?_
          refine x_idiv E dX7_beginBack_26 (by decide) ?_
          refine x_if_ne (tgt := 34) E dX7_beginBack_27 (by decide) hm (fun _ hm => ?_) (fun _ hm => ?_)
          · refine x_ldc (v := (iI (-100000))) E wG981 dX7_beginBack_34 ?_
            refine x_iast E rfl rfl (by decide) dX7_beginBack_36 hm (fun w_3 hm => ?_)
            refine x_iincB (lv' := fun x_4 => [(1, .int x_4), (0, .ref (ad 12 0))]) (j := 1) E dX7_beginBack_37 rfl rfl (by decide) (fun _ => rfl) hm (fun x_4 hm => ?_)
            refine x_goto (tgt := 2) E dX7_beginBack_40 (by decide) ?_
            exact x_weak [1, 0] rfl ((ih) x_4 w_3 hm)
          · refine x_iconst (v := (iI 0)) E dX7_beginBack_30 (by decide) ?_
            refine x_goto (tgt := 36) E dX7_beginBack_31 (by decide) ?_
            refine x_iast E rfl rfl (by decide) dX7_beginBack_36 hm (fun w_5 hm => ?_)
            refine x_iincB (lv' := fun x_6 => [(1, .int x_6), (0, .ref (ad 12 0))]) (j := 1) E dX7_beginBack_37 rfl rfl (by decide) (fun _ => rfl) hm (fun x_6 hm => ?_)
            refine x_goto (tgt := 2) E dX7_beginBack_40 (by decide) ?_
            exact x_weak [1, 0] rfl ((ih) x_6 w_5 hm)
  unfold X7_beginBack at hm
  refine x_iconst (v := (iI 0)) E dX7_beginBack_0 (by decide) ?_
  refine x_istore_n (lv' := [(1, .int (iI 0)), (0, .ref (ad 12 0))]) E dX7_beginBack_1 rfl (by decide) rfl ?_
  exact x_weak [1, 0] rfl ((hL2 1000) (iI 0) w hm)
set_option maxRecDepth 100000 in
set_option maxHeartbeats 4000000 in
theorem c_X7_gain (l : Launch) (D : va_G) (cs : vCs) (ad : Nat → Nat → Nat) {w : Wd} {a1 : Int32} {a2 : Int32} {r : Int32} (hm : X7_gain w a1 a2 = some r) : Mc l yX7_gain cX7_gain 3 (some .int) 0 0 D cs ad [.ref (ad 12 0), .int a1, .int a2] w (some (.int r)) w := by
  refine Mc.of (by decide) (Nat.le_of_ble_eq_true rfl) ?_
  intro p e s m args below meth c E
  replace E : EV p m c cX7_gain 3 s args RX7 yX7_gain (some .int) meth D cs ad := E
  unfold X7_gain at hm
  refine x_iload_n E dX7_gain_0 rfl 2 rfl ?_
  refine x_iconst (v := (iI (-1))) E dX7_gain_1 (by decide) ?_
  refine x_icmp_eq (tgt := 13) E dX7_gain_2 (by decide) hm (fun _ hm => ?_) (fun _ hm => ?_)
  · refine x_iconst (v := (iI 0)) E dX7_gain_13 (by decide) ?_
    refine x_goto (tgt := 34) E dX7_gain_14 (by decide) ?_
    exact x_iretP E hm dX7_gain_34
  · refine x_aload_n E dX7_gain_5 rfl 0 rfl ?_
    refine x_gf (v := .int (rd w 12 0 13)) E fr_X7_142 rfl rfl dX7_gain_6 ?_
    refine x_iconst (v := (iI (-1))) E dX7_gain_9 (by decide) ?_
    refine x_icmp_ne (tgt := 17) E dX7_gain_10 (by decide) hm (fun _ hm => ?_) (fun _ hm => ?_)
    · refine x_aload_n E dX7_gain_17 rfl 0 rfl ?_
      refine x_gf (v := .ref (ad 12 4)) E fr_X7_19 rfl rfl dX7_gain_18 ?_
      refine x_iconst (v := (iI 4)) E dX7_gain_21 (by decide) ?_
      refine x_iload_n E dX7_gain_22 rfl 1 rfl ?_
      refine x_imul E dX7_gain_23 ?_
      refine x_iconst (v := (iI 2)) E dX7_gain_24 (by decide) ?_
      refine x_iload_n E dX7_gain_25 rfl 2 rfl ?_
      refine x_imul E dX7_gain_26 ?_
      refine x_iadd E dX7_gain_27 ?_
      refine x_aload_n E dX7_gain_28 rfl 0 rfl ?_
      refine x_gf (v := .int (rd w 12 0 13)) E fr_X7_142 rfl rfl dX7_gain_29 ?_
      refine x_iadd E dX7_gain_32 ?_
      refine x_iald E rfl rfl (by decide) dX7_gain_33 hm (fun x_1 hm => ?_)
      exact x_iretP E hm dX7_gain_34
    · refine x_iconst (v := (iI 0)) E dX7_gain_13 (by decide) ?_
      refine x_goto (tgt := 34) E dX7_gain_14 (by decide) ?_
      exact x_iretP E hm dX7_gain_34
set_option maxRecDepth 100000 in
set_option maxHeartbeats 4000000 in
theorem c_X7_placeOf (l : Launch) (D : va_G) (cs : vCs) (ad : Nat → Nat → Nat) {w : Wd} {a0 : Int32} {a1 : Int32} {r : Int32} (hm : X7_placeOf a0 a1 = r) : Mc l yX7_placeOf cX7_placeOf 2 (some .int) 0 0 D cs ad [.int a0, .int a1] w (some (.int r)) w := by
  refine Mc.of (by decide) (Nat.le_of_ble_eq_true rfl) ?_
  intro p e s m args below meth c E
  replace E : EV p m c cX7_placeOf 2 s args RX7 yX7_placeOf (some .int) meth D cs ad := E
  unfold X7_placeOf at hm
  refine x_iconst (v := (iI 3)) E dX7_placeOf_0 (by decide) ?_
  refine x_iload_n E dX7_placeOf_1 rfl 0 rfl ?_
  refine x_imul E dX7_placeOf_2 ?_
  refine x_iload_n E dX7_placeOf_3 rfl 1 rfl ?_
  refine x_iadd E dX7_placeOf_4 ?_
  refine x_iconst (v := (iI 1)) E dX7_placeOf_5 (by decide) ?_
  refine x_iadd E dX7_placeOf_6 ?_
  exact x_iretT E hm dX7_placeOf_7
set_option maxRecDepth 100000 in
set_option maxHeartbeats 4000000 in
theorem c_X7_placeBehind (l : Launch) (D : va_G) (cs : vCs) (ad : Nat → Nat → Nat) {w : Wd} {a1 : Int32} {a2 : Int32} {a3 : Int32} {r : Int32} {w' : Wd} (hm : X7_placeBehind w a1 a2 a3 = some (r, w')) : Mc l yX7_placeBehind cX7_placeBehind 6 (some .int) 3 69 D cs ad [.ref (ad 12 0), .int a1, .int a2, .int a3] w (some (.int r)) w' := by
  refine Mc.of (by decide) (Nat.le_of_ble_eq_true rfl) ?_
  intro p e s m args below meth c E
  replace E : EV p m c cX7_placeBehind 6 s args RX7 yX7_placeBehind (some .int) meth D cs ad := E
  unfold X7_placeBehind at hm
  refine x_iload_n E dX7_placeBehind_0 rfl 2 rfl ?_
  refine x_iconst (v := (iI 3)) E dX7_placeBehind_1 (by decide) ?_
  refine x_irem E dX7_placeBehind_2 (by decide) ?_
  refine x_iconst (v := (iI 1)) E dX7_placeBehind_3 (by decide) ?_
  refine x_isub E dX7_placeBehind_4 ?_
  refine x_bI hm (fun x_1 hm => ?_)
  refine x_istore (lv' := [(4, .int x_1), (0, .ref (ad 12 0)), (1, .int a1), (2, .int a2), (3, .int a3)]) E dX7_placeBehind_5 (by decide) rfl ?_
  refine x_aload_n E dX7_placeBehind_7 rfl 1 rfl ?_
  refine x_iload_n E dX7_placeBehind_8 rfl 2 rfl ?_
  refine x_iload_n E dX7_placeBehind_9 rfl 3 rfl ?_
  refine x_iconst (v := (iI 3)) E dX7_placeBehind_10 (by decide) ?_
  refine x_idiv E dX7_placeBehind_11 (by decide) ?_
  refine x_iload_n E dX7_placeBehind_12 rfl 4 rfl ?_
  obtain ⟨r_2, w_3, hc, hm⟩ := bI_inv hm
  refine x_callV (As := [.int a1, .int (a2 / (iI 3)), .int a3]) (rest := []) E my_X7_step wG926 (c_X7_step l D cs ad hc) rfl rfl rfl ⟨Nat.le_of_ble_eq_true rfl, Nat.le_of_ble_eq_true rfl⟩ (Nat.le_of_ble_eq_true rfl) dX7_placeBehind_13 ?_
  refine x_istore (lv' := [(5, .int r_2), (4, .int x_1), (0, .ref (ad 12 0)), (1, .int a1), (2, .int a2), (3, .int a3)]) E dX7_placeBehind_16 (by decide) rfl ?_
  refine x_iload E dX7_placeBehind_18 0 rfl ?_
  refine x_iconst (v := (iI (-1))) E dX7_placeBehind_20 (by decide) ?_
  refine x_icmp_ne (tgt := 26) E dX7_placeBehind_21 (by decide) hm (fun _ hm => ?_) (fun _ hm => ?_)
  · refine x_aload_n E dX7_placeBehind_26 rfl 2 rfl ?_
    refine x_aload_n E dX7_placeBehind_27 rfl 2 rfl ?_
    refine x_iload_n E dX7_placeBehind_28 rfl 3 rfl ?_
    refine x_iload E dX7_placeBehind_29 1 rfl ?_
    obtain ⟨r_4, hc, hm⟩ := ob_inv hm
    refine x_callV (As := [.int a1, .int x_1]) (rest := [.ref (ad 12 0)]) E my_X7_gain wG994 (c_X7_gain l D cs ad hc) rfl rfl rfl ⟨Nat.le_of_ble_eq_true rfl, Nat.le_of_ble_eq_true rfl⟩ (Nat.le_of_ble_eq_true rfl) dX7_placeBehind_31 ?_
    refine x_pf E fr_X7_195 rfl (by decide) rfl rfl dX7_placeBehind_34 ?_
    refine x_bW hm (fun w_5 hm => ?_)
    refine x_iload E dX7_placeBehind_37 0 rfl ?_
    refine x_aload_n E dX7_placeBehind_39 rfl 2 rfl ?_
    refine x_gf (v := .int (rd w_5 12 0 13)) E fr_X7_142 rfl rfl dX7_placeBehind_40 ?_
    refine x_iconst (v := (iI (-1))) E dX7_placeBehind_43 (by decide) ?_
    refine x_icmp_ne (tgt := 52) E dX7_placeBehind_44 (by decide) hm (fun _ hm => ?_) (fun _ hm => ?_)
    · refine x_aload_n E dX7_placeBehind_52 rfl 2 rfl ?_
      refine x_gf (v := .int (rd w_5 12 0 13)) E fr_X7_142 rfl rfl dX7_placeBehind_53 ?_
      refine x_callS (As := [.int r_2, .int (rd w_5 12 0 13)]) (rest := []) E my_X7_placeOf wG998 (c_X7_placeOf l D cs ad rfl) rfl ⟨Nat.le_of_ble_eq_true rfl, Nat.le_of_ble_eq_true rfl⟩ (Nat.le_of_ble_eq_true rfl) dX7_placeBehind_56 ?_
      exact x_iretS E hm dX7_placeBehind_59
    · refine x_iload E dX7_placeBehind_47 1 rfl ?_
      refine x_goto (tgt := 56) E dX7_placeBehind_49 (by decide) ?_
      refine x_callS (As := [.int r_2, .int x_1]) (rest := []) E my_X7_placeOf wG998 (c_X7_placeOf l D cs ad rfl) rfl ⟨Nat.le_of_ble_eq_true rfl, Nat.le_of_ble_eq_true rfl⟩ (Nat.le_of_ble_eq_true rfl) dX7_placeBehind_56 ?_
      exact x_iretS E hm dX7_placeBehind_59
  · refine x_iconst (v := (iI (-1))) E dX7_placeBehind_24 (by decide) ?_
    exact x_iretS E hm dX7_placeBehind_25
set_option maxRecDepth 100000 in
set_option maxHeartbeats 4000000 in
theorem c_X7_moreBy (l : Launch) (D : va_G) (cs : vCs) (ad : Nat → Nat → Nat) {w : Wd} {a1 : Int32} {a2 : Int32} {a3 : Int32} {a4 : Int32} {r : Int32} {w' : Wd} (hm : X7_moreBy w a1 a2 a3 a4 = some (r, w')) : Mc l yX7_moreBy cX7_moreBy 8 (some .int) 4 94 D cs ad [.ref (ad 12 0), .int a1, .int a2, .int a3, .int a4] w (some (.int r)) w' := by
  refine Mc.of (by decide) (Nat.le_of_ble_eq_true rfl) ?_
  intro p e s m args below meth c E
  replace E : EV p m c cX7_moreBy 8 s args RX7 yX7_moreBy (some .int) meth D cs ad := E
  unfold X7_moreBy at hm
  refine x_aload_n E dX7_moreBy_0 rfl 0 rfl ?_
  refine x_iload_n E dX7_moreBy_1 rfl 1 rfl ?_
  refine x_iload_n E dX7_moreBy_2 rfl 3 rfl ?_
  refine x_bipush (v := (iI 15)) E dX7_moreBy_3 (by decide) ?_
  refine x_idiv E dX7_moreBy_5 (by decide) ?_
  refine x_iload E dX7_moreBy_6 4 rfl ?_
  obtain ⟨r_1, w_2, hc, hm⟩ := bI_inv hm
  refine x_callV (As := [.int a1, .int (a3 / (iI 15)), .int a4]) (rest := []) E my_X7_placeBehind wG990 (c_X7_placeBehind l D cs ad hc) rfl rfl rfl ⟨Nat.le_of_ble_eq_true rfl, Nat.le_of_ble_eq_true rfl⟩ (Nat.le_of_ble_eq_true rfl) dX7_moreBy_8 ?_
  refine x_istore (lv' := [(5, .int r_1), (0, .ref (ad 12 0)), (1, .int a1), (2, .int a2), (3, .int a3), (4, .int a4)]) E dX7_moreBy_11 (by decide) rfl ?_
  refine x_iload E dX7_moreBy_13 0 rfl ?_
  refine x_iconst (v := (iI (-1))) E dX7_moreBy_15 (by decide) ?_
  refine x_icmp_ne (tgt := 22) E dX7_moreBy_16 (by decide) hm (fun _ hm => ?_) (fun _ hm => ?_)
  · refine x_aload_n E dX7_moreBy_22 rfl 1 rfl ?_
    refine x_gf (v := .int (rd w_2 12 0 25)) E fr_X7_195 rfl rfl dX7_moreBy_23 ?_
    refine x_bI hm (fun x_3 hm => ?_)
    refine x_istore (lv' := [(6, .int x_3), (5, .int r_1), (0, .ref (ad 12 0)), (1, .int a1), (2, .int a2), (3, .int a3), (4, .int a4)]) E dX7_moreBy_26 (by decide) rfl ?_
    refine x_aload_n E dX7_moreBy_28 rfl 2 rfl ?_
    refine x_iload_n E dX7_moreBy_29 rfl 4 rfl ?_
    refine x_iload_n E dX7_moreBy_30 rfl 5 rfl ?_
    refine x_bipush (v := (iI 15)) E dX7_moreBy_31 (by decide) ?_
    refine x_irem E dX7_moreBy_33 (by decide) ?_
    refine x_iload E dX7_moreBy_34 6 rfl ?_
    obtain ⟨r_4, w_5, hc, hm⟩ := bI_inv hm
    refine x_callV (As := [.int a2, .int (irm a3 (iI 15)), .int a4]) (rest := []) E my_X7_placeBehind wG990 (c_X7_placeBehind l D cs ad hc) rfl rfl rfl ⟨Nat.le_of_ble_eq_true rfl, Nat.le_of_ble_eq_true rfl⟩ (Nat.le_of_ble_eq_true rfl) dX7_moreBy_36 ?_
    refine x_istore (lv' := [(7, .int r_4), (6, .int x_3), (5, .int r_1), (0, .ref (ad 12 0)), (1, .int a1), (2, .int a2), (3, .int a3), (4, .int a4)]) E dX7_moreBy_39 (by decide) rfl ?_
    refine x_iload E dX7_moreBy_41 0 rfl ?_
    refine x_iconst (v := (iI (-1))) E dX7_moreBy_43 (by decide) ?_
    refine x_icmp_eq (tgt := 65) E dX7_moreBy_44 (by decide) hm (fun _ hm => ?_) (fun _ hm => ?_)
    · refine x_ldc (v := (iI (-100000))) E wG981 dX7_moreBy_65 ?_
      exact x_iretS E hm dX7_moreBy_67
    · refine x_aload_n E dX7_moreBy_47 rfl 3 rfl ?_
      refine x_gf (v := .ref (ad 12 8)) E fr_X7_35 rfl rfl dX7_moreBy_48 ?_
      refine x_bipush (v := (iI 15)) E dX7_moreBy_51 (by decide) ?_
      refine x_iload E dX7_moreBy_53 2 rfl ?_
      refine x_imul E dX7_moreBy_55 ?_
      refine x_iload E dX7_moreBy_56 0 rfl ?_
      refine x_iadd E dX7_moreBy_58 ?_
      refine x_iald E rfl rfl (by decide) dX7_moreBy_59 hm (fun x_6 hm => ?_)
      refine x_ldc (v := (iI (-100000))) E wG981 dX7_moreBy_60 ?_
      refine x_icmp_ne (tgt := 68) E dX7_moreBy_62 (by decide) hm (fun _ hm => ?_) (fun _ hm => ?_)
      · refine x_aload_n E dX7_moreBy_68 rfl 3 rfl ?_
        refine x_gf (v := .ref (ad 12 8)) E fr_X7_35 rfl rfl dX7_moreBy_69 ?_
        refine x_bipush (v := (iI 15)) E dX7_moreBy_72 (by decide) ?_
        refine x_iload E dX7_moreBy_74 2 rfl ?_
        refine x_imul E dX7_moreBy_76 ?_
        refine x_iload E dX7_moreBy_77 0 rfl ?_
        refine x_iadd E dX7_moreBy_79 ?_
        refine x_iald E rfl rfl (by decide) dX7_moreBy_80 hm (fun x_7 hm => ?_)
        refine x_aload_n E dX7_moreBy_81 rfl 3 rfl ?_
        refine x_gf (v := .int (rd w_5 12 0 25)) E fr_X7_195 rfl rfl dX7_moreBy_82 ?_
        refine x_iadd E dX7_moreBy_85 ?_
        refine x_iload E dX7_moreBy_86 1 rfl ?_
        refine x_isub E dX7_moreBy_88 ?_
        exact x_iretS E hm dX7_moreBy_89
      · refine x_ldc (v := (iI (-100000))) E wG981 dX7_moreBy_65 ?_
        exact x_iretS E hm dX7_moreBy_67
  · refine x_ldc (v := (iI (-100000))) E wG981 dX7_moreBy_19 ?_
    exact x_iretS E hm dX7_moreBy_21

set_option maxRecDepth 100000 in
set_option maxHeartbeats 4000000 in
theorem c_X7_pieceNow (l : Launch) (D : va_G) (cs : vCs) (ad : Nat → Nat → Nat) {w : Wd} {a1 : Int32} {a2 : Int32} {r : Int32} (hm : X7_pieceNow w a1 a2 = some r) : Mc l yX7_pieceNow cX7_pieceNow 5 (some .int) 0 0 D cs ad [.ref (ad 12 0), .int a1, .int a2] w (some (.int r)) w := by
  refine Mc.of (by decide) (Nat.le_of_ble_eq_true rfl) ?_
  intro p e s m args below meth c E
  replace E : EV p m c cX7_pieceNow 5 s args RX7 yX7_pieceNow (some .int) meth D cs ad := E
  have hL5 : ∀ (fuel : Nat) (k24 : Int32 → Int32 → Wd → Option Int32) (hk24 : ∀ (b2 : Int32) (b3 : Int32) (w : Wd), k24 b2 b3 w = some r → XV p l e { frames := 0, cells := 0, slots := 0, locals := 0 } s m args below meth c 5 D cs ad (MQ below (xQ D cs ad (some (.int r)) w) args s 0 0 (xF ad)) 24 [(0, .ref (ad 12 0)), (2, .int b2), (3, .int b3)] [] w) (b1 : Int32) (b2 : Int32) (b3 : Int32) (b4 : Int32) (w : Wd), X7_pieceNow_L5 fuel k24 b1 b2 b3 b4 w = some r → XV p l e { frames := 0, cells := 0, slots := 0, locals := 0 } s m args below meth c 5 D cs ad (MQ below (xQ D cs ad (some (.int r)) w) args s 0 0 (xF ad)) 5 [(0, .ref (ad 12 0)), (1, .int b1), (2, .int b2), (3, .int b3), (4, .int b4)] [] w := by
    intro fuel
    induction fuel with
    | zero => intro k24 hk24 b1 b2 b3 b4 w hm; cases hm
    | succ fuel ih =>
      intro k24 hk24 b1 b2 b3 b4 w hm
      rw [X7_pieceNow_L5] at hm
      refine x_iload E dX7_pieceNow_5 4 rfl ?_
      refine x_iload_n E dX7_pieceNow_7 rfl 1 rfl ?_
      refine x_icmp_ge (tgt := 24) E dX7_pieceNow_8 (by decide) hm (fun _ hm => ?_) (fun _ hm => ?_)
      · exact x_weak [0, 2, 3] rfl (hk24 b2 b3 w hm)
      · refine x_aload_n E dX7_pieceNow_11 rfl 0 rfl ?_
        refine x_gf (v := .ref (ad 12 18)) E fr_X7_66 rfl rfl dX7_pieceNow_12 ?_
        refine x_iload_n E dX7_pieceNow_15 rfl 3 rfl ?_
        refine x_iald E rfl rfl (by decide) dX7_pieceNow_16 hm (fun x_1 hm => ?_)
        refine x_istore_n (lv' := [(3, .int x_1), (0, .ref (ad 12 0)), (1, .int b1), (2, .int b2), (4, .int b4)]) E dX7_pieceNow_17 rfl (by decide) rfl ?_
        refine x_iincB (lv' := fun x_2 => [(4, .int x_2), (3, .int x_1), (0, .ref (ad 12 0)), (1, .int b1), (2, .int b2)]) (j := 4) E dX7_pieceNow_18 rfl rfl (by decide) (fun _ => rfl) hm (fun x_2 hm => ?_)
        refine x_goto (tgt := 5) E dX7_pieceNow_21 (by decide) ?_
        exact x_weak [2, 3, 4, 1, 0] rfl ((ih _ hk24) b1 b2 x_1 x_2 w hm)
  have hL24 : ∀ (b2 : Int32) (b3 : Int32) (w : Wd), X7_pieceNow_L24 b2 b3 w = some r → XV p l e { frames := 0, cells := 0, slots := 0, locals := 0 } s m args below meth c 5 D cs ad (MQ below (xQ D cs ad (some (.int r)) w) args s 0 0 (xF ad)) 24 [(0, .ref (ad 12 0)), (2, .int b2), (3, .int b3)] [] w := by
    intro b2 b3 w hm
    unfold X7_pieceNow_L24 at hm
    refine x_iload_n E dX7_pieceNow_24 rfl 1 rfl ?_
    refine x_if_ne (tgt := 37) E dX7_pieceNow_25 (by decide) hm (fun _ hm => ?_) (fun _ hm => ?_)
    · refine x_iload_n E dX7_pieceNow_37 rfl 1 rfl ?_
      refine x_iconst (v := (iI 1)) E dX7_pieceNow_38 (by decide) ?_
      refine x_icmp_ne (tgt := 51) E dX7_pieceNow_39 (by decide) hm (fun _ hm => ?_) (fun _ hm => ?_)
      · refine x_aload_n E dX7_pieceNow_51 rfl 0 rfl ?_
        refine x_gf (v := .ref (ad 12 20)) E fr_X7_72 rfl rfl dX7_pieceNow_52 ?_
        refine x_iload_n E dX7_pieceNow_55 rfl 2 rfl ?_
        refine x_iald E rfl rfl (by decide) dX7_pieceNow_56 hm (fun x_3 hm => ?_)
        exact x_iretP E hm dX7_pieceNow_57
      · refine x_aload_n E dX7_pieceNow_42 rfl 0 rfl ?_
        refine x_gf (v := .ref (ad 12 19)) E fr_X7_69 rfl rfl dX7_pieceNow_43 ?_
        refine x_iload_n E dX7_pieceNow_46 rfl 2 rfl ?_
        refine x_iald E rfl rfl (by decide) dX7_pieceNow_47 hm (fun x_4 hm => ?_)
        refine x_goto (tgt := 57) E dX7_pieceNow_48 (by decide) ?_
        exact x_iretP E hm dX7_pieceNow_57
    · refine x_aload_n E dX7_pieceNow_28 rfl 0 rfl ?_
      refine x_gf (v := .ref (ad 12 18)) E fr_X7_66 rfl rfl dX7_pieceNow_29 ?_
      refine x_iload_n E dX7_pieceNow_32 rfl 2 rfl ?_
      refine x_iald E rfl rfl (by decide) dX7_pieceNow_33 hm (fun x_5 hm => ?_)
      refine x_goto (tgt := 57) E dX7_pieceNow_34 (by decide) ?_
      exact x_iretP E hm dX7_pieceNow_57
  unfold X7_pieceNow at hm
  refine x_iconst (v := (iI 0)) E dX7_pieceNow_0 (by decide) ?_
  refine x_istore_n (lv' := [(3, .int (iI 0)), (0, .ref (ad 12 0)), (1, .int a1), (2, .int a2)]) E dX7_pieceNow_1 rfl (by decide) rfl ?_
  refine x_iconst (v := (iI 0)) E dX7_pieceNow_2 (by decide) ?_
  refine x_istore (lv' := [(4, .int (iI 0)), (3, .int (iI 0)), (0, .ref (ad 12 0)), (1, .int a1), (2, .int a2)]) E dX7_pieceNow_3 (by decide) rfl ?_
  exact x_weak [2, 3, 4, 1, 0] rfl ((hL5 1000 _ (hL24)) a1 a2 (iI 0) (iI 0) w hm)
set_option maxRecDepth 100000 in
set_option maxHeartbeats 4000000 in
theorem c_X7_mixCuts (l : Launch) (D : va_G) (cs : vCs) (ad : Nat → Nat → Nat) {w : Wd} {w' : Wd} (hm : X7_mixCuts w = some w') : Mc l yX7_mixCuts cX7_mixCuts 2 none 1 24 D cs ad [.ref (ad 12 0)] w none w' := by
  refine Mc.of (by decide) (Nat.le_of_ble_eq_true rfl) ?_
  intro p e s m args below meth c E
  replace E : EV p m c cX7_mixCuts 2 s args RX7 yX7_mixCuts none meth D cs ad := E
  have hL24 : ∀ (fuel : Nat) (b1 : Int32) (w : Wd), X7_mixCuts_L24 fuel b1 w = some w' → XV p l e { frames := 1, cells := 0, slots := 0, locals := 24 } s m args below meth c 2 D cs ad (MQ below (xQ D cs ad none w') args s 0 0 (xF ad)) 24 [(0, .ref (ad 12 0)), (1, .int b1)] [] w := by
    intro fuel
    induction fuel with
    | zero => intro b1 w hm; cases hm
    | succ fuel ih =>
      intro b1 w hm
      rw [X7_mixCuts_L24] at hm
      refine x_iload_n E dX7_mixCuts_24 rfl 1 rfl ?_
      refine x_iconst (v := (iI 3)) E dX7_mixCuts_25 (by decide) ?_
      refine x_aload_n E dX7_mixCuts_26 rfl 0 rfl ?_
      refine x_gf (v := .ref (ad 12 17)) E fr_X7_63 rfl rfl dX7_mixCuts_27 ?_
      refine x_iconst (v := (iI 0)) E dX7_mixCuts_30 (by decide) ?_
      refine x_iald E rfl rfl (by decide) dX7_mixCuts_31 hm (fun x_5 hm => ?_)
      refine x_imul E dX7_mixCuts_32 ?_
      refine x_icmp_ge (tgt := 57) E dX7_mixCuts_33 (by decide) hm (fun _ hm => ?_) (fun _ hm => ?_)
      · exact x_vretS E hm dX7_mixCuts_57
      · refine x_aload_n E dX7_mixCuts_36 rfl 0 rfl ?_
        refine x_aload_n E dX7_mixCuts_37 rfl 0 rfl ?_
        refine x_iload_n E dX7_mixCuts_38 rfl 1 rfl ?_
        refine x_iconst (v := (iI 3)) E dX7_mixCuts_39 (by decide) ?_
        refine x_idiv E dX7_mixCuts_40 (by decide) ?_
        refine x_iload_n E dX7_mixCuts_41 rfl 1 rfl ?_
        refine x_iconst (v := (iI 3)) E dX7_mixCuts_42 (by decide) ?_
        refine x_irem E dX7_mixCuts_43 (by decide) ?_
        obtain ⟨r_6, hc, hm⟩ := ob_inv hm
        refine x_callV (As := [.int (b1 / (iI 3)), .int (irm b1 (iI 3))]) (rest := [.ref (ad 12 0)]) E my_X7_pieceNow wG1109 (c_X7_pieceNow l D cs ad hc) rfl rfl rfl ⟨Nat.le_of_ble_eq_true rfl, Nat.le_of_ble_eq_true rfl⟩ (Nat.le_of_ble_eq_true rfl) dX7_mixCuts_44 ?_
        refine x_i2l E dX7_mixCuts_47 ?_
        obtain ⟨w_7, hc, hm⟩ := ob_inv hm
        refine x_callV (As := [.long (r_6.toInt64)]) (rest := []) E my_X7_mix wG1138 (c_X7_mix l D cs ad hc) rfl rfl rfl ⟨Nat.le_of_ble_eq_true rfl, Nat.le_of_ble_eq_true rfl⟩ (Nat.le_of_ble_eq_true rfl) dX7_mixCuts_48 ?_
        refine x_iincB (lv' := fun x_8 => [(1, .int x_8), (0, .ref (ad 12 0))]) (j := 1) E dX7_mixCuts_51 rfl rfl (by decide) (fun _ => rfl) hm (fun x_8 hm => ?_)
        refine x_goto (tgt := 24) E dX7_mixCuts_54 (by decide) ?_
        exact x_weak [1, 0] rfl ((ih) x_8 w_7 hm)
  unfold X7_mixCuts at hm
  refine x_aload_n E dX7_mixCuts_0 rfl 0 rfl ?_
  refine x_aload_n E dX7_mixCuts_1 rfl 0 rfl ?_
  refine x_gf (v := .ref (ad 12 16)) E fr_X7_60 rfl rfl dX7_mixCuts_2 ?_
  refine x_iconst (v := (iI 0)) E dX7_mixCuts_5 (by decide) ?_
  refine x_iald E rfl rfl (by decide) dX7_mixCuts_6 hm (fun x_1 hm => ?_)
  refine x_i2l E dX7_mixCuts_7 ?_
  obtain ⟨w_2, hc, hm⟩ := ob_inv hm
  refine x_callV (As := [.long (x_1.toInt64)]) (rest := []) E my_X7_mix wG1138 (c_X7_mix l D cs ad hc) rfl rfl rfl ⟨Nat.le_of_ble_eq_true rfl, Nat.le_of_ble_eq_true rfl⟩ (Nat.le_of_ble_eq_true rfl) dX7_mixCuts_8 ?_
  refine x_aload_n E dX7_mixCuts_11 rfl 0 rfl ?_
  refine x_aload_n E dX7_mixCuts_12 rfl 0 rfl ?_
  refine x_gf (v := .ref (ad 12 17)) E fr_X7_63 rfl rfl dX7_mixCuts_13 ?_
  refine x_iconst (v := (iI 0)) E dX7_mixCuts_16 (by decide) ?_
  refine x_iald E rfl rfl (by decide) dX7_mixCuts_17 hm (fun x_3 hm => ?_)
  refine x_i2l E dX7_mixCuts_18 ?_
  obtain ⟨w_4, hc, hm⟩ := ob_inv hm
  refine x_callV (As := [.long (x_3.toInt64)]) (rest := []) E my_X7_mix wG1138 (c_X7_mix l D cs ad hc) rfl rfl rfl ⟨Nat.le_of_ble_eq_true rfl, Nat.le_of_ble_eq_true rfl⟩ (Nat.le_of_ble_eq_true rfl) dX7_mixCuts_19 ?_
  refine x_iconst (v := (iI 0)) E dX7_mixCuts_22 (by decide) ?_
  refine x_istore_n (lv' := [(1, .int (iI 0)), (0, .ref (ad 12 0))]) E dX7_mixCuts_23 rfl (by decide) rfl ?_
  exact x_weak [1, 0] rfl ((hL24 1000) (iI 0) w_4 hm)
set_option maxRecDepth 100000 in
set_option maxHeartbeats 4000000 in
theorem c_X7_digest (l : Launch) (D : va_G) (cs : vCs) (ad : Nat → Nat → Nat) {w : Wd} {r : Int64} {w' : Wd} (hm : X7_digest w = some (r, w')) : Mc l yX7_digest cX7_digest 2 (some .long) 11 249 D cs ad [.ref (ad 12 0)] w (some (.long r)) w' := by
  refine Mc.of (by decide) (Nat.le_of_ble_eq_true rfl) ?_
  intro p e s m args below meth c E
  replace E : EV p m c cX7_digest 2 s args RX7 yX7_digest (some .long) meth D cs ad := E
  have hL9 : ∀ (fuel : Nat) (k28 : Wd → Option (Int64 × Wd)) (hk28 : ∀ (w : Wd), k28 w = some (r, w') → XV p l e { frames := 11, cells := 0, slots := 0, locals := 249 } s m args below meth c 2 D cs ad (MQ below (xQ D cs ad (some (.long r)) w') args s 0 0 (xF ad)) 28 [(0, .ref (ad 12 0))] [] w) (b1 : Int32) (w : Wd), X7_digest_L9 fuel k28 b1 w = some (r, w') → XV p l e { frames := 11, cells := 0, slots := 0, locals := 249 } s m args below meth c 2 D cs ad (MQ below (xQ D cs ad (some (.long r)) w') args s 0 0 (xF ad)) 9 [(0, .ref (ad 12 0)), (1, .int b1)] [] w := by
    intro fuel
    induction fuel with
    | zero => intro k28 hk28 b1 w hm; cases hm
    | succ fuel ih =>
      intro k28 hk28 b1 w hm
      rw [X7_digest_L9] at hm
      refine x_iload_n E dX7_digest_9 rfl 1 rfl ?_
      refine x_aload_n E dX7_digest_10 rfl 0 rfl ?_
      refine x_gf (v := .int (rd w 12 0 0)) E fr_X7_110 rfl rfl dX7_digest_11 ?_
      refine x_icmp_ge (tgt := 28) E dX7_digest_14 (by decide) hm (fun _ hm => ?_) (fun _ hm => ?_)
      · exact x_weak [0] rfl (hk28 w hm)
      · refine x_aload_n E dX7_digest_17 rfl 0 rfl ?_
        refine x_iload_n E dX7_digest_18 rfl 1 rfl ?_
        obtain ⟨w_2, hc, hm⟩ := ob_inv hm
        refine x_callV (As := [.int b1]) (rest := []) E my_X7_mixCode wG1134 (c_X7_mixCode l D cs ad hc) rfl rfl rfl ⟨Nat.le_of_ble_eq_true rfl, Nat.le_of_ble_eq_true rfl⟩ (Nat.le_of_ble_eq_true rfl) dX7_digest_19 ?_
        refine x_iincB (lv' := fun x_3 => [(1, .int x_3), (0, .ref (ad 12 0))]) (j := 1) E dX7_digest_22 rfl rfl (by decide) (fun _ => rfl) hm (fun x_3 hm => ?_)
        refine x_goto (tgt := 9) E dX7_digest_25 (by decide) ?_
        exact x_weak [1, 0] rfl ((ih _ hk28) x_3 w_2 hm)
  have hL30 : ∀ (fuel : Nat) (k55 : Wd → Option (Int64 × Wd)) (hk55 : ∀ (w : Wd), k55 w = some (r, w') → XV p l e { frames := 11, cells := 0, slots := 0, locals := 249 } s m args below meth c 2 D cs ad (MQ below (xQ D cs ad (some (.long r)) w') args s 0 0 (xF ad)) 55 [(0, .ref (ad 12 0))] [] w) (b1 : Int32) (w : Wd), X7_digest_L30 fuel k55 b1 w = some (r, w') → XV p l e { frames := 11, cells := 0, slots := 0, locals := 249 } s m args below meth c 2 D cs ad (MQ below (xQ D cs ad (some (.long r)) w') args s 0 0 (xF ad)) 30 [(0, .ref (ad 12 0)), (1, .int b1)] [] w := by
    intro fuel
    induction fuel with
    | zero => intro k55 hk55 b1 w hm; cases hm
    | succ fuel ih =>
      intro k55 hk55 b1 w hm
      rw [X7_digest_L30] at hm
      refine x_iload_n E dX7_digest_30 rfl 1 rfl ?_
      refine x_aload_n E dX7_digest_31 rfl 0 rfl ?_
      refine x_gf (v := .int (rd w 12 0 8)) E fr_X7_133 rfl rfl dX7_digest_32 ?_
      refine x_icmp_ge (tgt := 55) E dX7_digest_35 (by decide) hm (fun _ hm => ?_) (fun _ hm => ?_)
      · exact x_weak [0] rfl (hk55 w hm)
      · refine x_aload_n E dX7_digest_38 rfl 0 rfl ?_
        refine x_aload_n E dX7_digest_39 rfl 0 rfl ?_
        refine x_gf (v := .ref (ad 12 5)) E fr_X7_26 rfl rfl dX7_digest_40 ?_
        refine x_iload_n E dX7_digest_43 rfl 1 rfl ?_
        refine x_iald E rfl rfl (by decide) dX7_digest_44 hm (fun x_4 hm => ?_)
        refine x_i2l E dX7_digest_45 ?_
        obtain ⟨w_5, hc, hm⟩ := ob_inv hm
        refine x_callV (As := [.long (x_4.toInt64)]) (rest := []) E my_X7_mix wG1138 (c_X7_mix l D cs ad hc) rfl rfl rfl ⟨Nat.le_of_ble_eq_true rfl, Nat.le_of_ble_eq_true rfl⟩ (Nat.le_of_ble_eq_true rfl) dX7_digest_46 ?_
        refine x_iincB (lv' := fun x_6 => [(1, .int x_6), (0, .ref (ad 12 0))]) (j := 1) E dX7_digest_49 rfl rfl (by decide) (fun _ => rfl) hm (fun x_6 hm => ?_)
        refine x_goto (tgt := 30) E dX7_digest_52 (by decide) ?_
        exact x_weak [1, 0] rfl ((ih _ hk55) x_6 w_5 hm)
  have hL77 : ∀ (fuel : Nat) (k102 : Wd → Option (Int64 × Wd)) (hk102 : ∀ (w : Wd), k102 w = some (r, w') → XV p l e { frames := 11, cells := 0, slots := 0, locals := 249 } s m args below meth c 2 D cs ad (MQ below (xQ D cs ad (some (.long r)) w') args s 0 0 (xF ad)) 102 [(0, .ref (ad 12 0))] [] w) (b1 : Int32) (w : Wd), X7_digest_L77 fuel k102 b1 w = some (r, w') → XV p l e { frames := 11, cells := 0, slots := 0, locals := 249 } s m args below meth c 2 D cs ad (MQ below (xQ D cs ad (some (.long r)) w') args s 0 0 (xF ad)) 77 [(0, .ref (ad 12 0)), (1, .int b1)] [] w := by
    intro fuel
    induction fuel with
    | zero => intro k102 hk102 b1 w hm; cases hm
    | succ fuel ih =>
      intro k102 hk102 b1 w hm
      rw [X7_digest_L77] at hm
      refine x_iload_n E dX7_digest_77 rfl 1 rfl ?_
      refine x_aload_n E dX7_digest_78 rfl 0 rfl ?_
      refine x_gf (v := .int (rd w 12 0 10)) E fr_X7_79 rfl rfl dX7_digest_79 ?_
      refine x_icmp_ge (tgt := 102) E dX7_digest_82 (by decide) hm (fun _ hm => ?_) (fun _ hm => ?_)
      · exact x_weak [0] rfl (hk102 w hm)
      · refine x_aload_n E dX7_digest_85 rfl 0 rfl ?_
        refine x_aload_n E dX7_digest_86 rfl 0 rfl ?_
        refine x_gf (v := .ref (ad 12 6)) E fr_X7_29 rfl rfl dX7_digest_87 ?_
        refine x_iload_n E dX7_digest_90 rfl 1 rfl ?_
        refine x_iald E rfl rfl (by decide) dX7_digest_91 hm (fun x_13 hm => ?_)
        refine x_i2l E dX7_digest_92 ?_
        obtain ⟨w_14, hc, hm⟩ := ob_inv hm
        refine x_callV (As := [.long (x_13.toInt64)]) (rest := []) E my_X7_mix wG1138 (c_X7_mix l D cs ad hc) rfl rfl rfl ⟨Nat.le_of_ble_eq_true rfl, Nat.le_of_ble_eq_true rfl⟩ (Nat.le_of_ble_eq_true rfl) dX7_digest_93 ?_
        refine x_iincB (lv' := fun x_15 => [(1, .int x_15), (0, .ref (ad 12 0))]) (j := 1) E dX7_digest_96 rfl rfl (by decide) (fun _ => rfl) hm (fun x_15 hm => ?_)
        refine x_goto (tgt := 77) E dX7_digest_99 (by decide) ?_
        exact x_weak [1, 0] rfl ((ih _ hk102) x_15 w_14 hm)
  have hL104 : ∀ (fuel : Nat) (b1 : Int32) (w : Wd), X7_digest_L104 fuel b1 w = some (r, w') → XV p l e { frames := 11, cells := 0, slots := 0, locals := 249 } s m args below meth c 2 D cs ad (MQ below (xQ D cs ad (some (.long r)) w') args s 0 0 (xF ad)) 104 [(0, .ref (ad 12 0)), (1, .int b1)] [] w := by
    intro fuel
    induction fuel with
    | zero => intro b1 w hm; cases hm
    | succ fuel ih =>
      intro b1 w hm
      rw [X7_digest_L104] at hm
      refine x_iload_n E dX7_digest_104 rfl 1 rfl ?_
      refine x_bipush (v := (iI 8)) E dX7_digest_105 (by decide) ?_
      refine x_icmp_ge (tgt := 126) E dX7_digest_107 (by decide) hm (fun _ hm => ?_) (fun _ hm => ?_)
      · refine x_aload_n E dX7_digest_126 rfl 0 rfl ?_
        refine x_gf (v := .long (w.2)) E fr_X7_310 rfl rfl dX7_digest_127 ?_
        exact x_lretS E hm dX7_digest_130
      · refine x_aload_n E dX7_digest_110 rfl 0 rfl ?_
        refine x_aload_n E dX7_digest_111 rfl 0 rfl ?_
        refine x_iload_n E dX7_digest_112 rfl 1 rfl ?_
        obtain ⟨r_16, w_17, hc, hm⟩ := bI_inv hm
        refine x_callV (As := [.int b1]) (rest := [.ref (ad 12 0)]) E my_X7_howMany wG1117 (c_X7_howMany l D cs ad hc) rfl rfl rfl ⟨Nat.le_of_ble_eq_true rfl, Nat.le_of_ble_eq_true rfl⟩ (Nat.le_of_ble_eq_true rfl) dX7_digest_113 ?_
        refine x_i2l E dX7_digest_116 ?_
        obtain ⟨w_18, hc, hm⟩ := ob_inv hm
        refine x_callV (As := [.long (r_16.toInt64)]) (rest := []) E my_X7_mix wG1138 (c_X7_mix l D cs ad hc) rfl rfl rfl ⟨Nat.le_of_ble_eq_true rfl, Nat.le_of_ble_eq_true rfl⟩ (Nat.le_of_ble_eq_true rfl) dX7_digest_117 ?_
        refine x_iincB (lv' := fun x_19 => [(1, .int x_19), (0, .ref (ad 12 0))]) (j := 1) E dX7_digest_120 rfl rfl (by decide) (fun _ => rfl) hm (fun x_19 hm => ?_)
        refine x_goto (tgt := 104) E dX7_digest_123 (by decide) ?_
        exact x_weak [1, 0] rfl ((ih) x_19 w_18 hm)
  have hL102 : ∀ (w : Wd), X7_digest_L102 w = some (r, w') → XV p l e { frames := 11, cells := 0, slots := 0, locals := 249 } s m args below meth c 2 D cs ad (MQ below (xQ D cs ad (some (.long r)) w') args s 0 0 (xF ad)) 102 [(0, .ref (ad 12 0))] [] w := by
    intro w hm
    unfold X7_digest_L102 at hm
    refine x_iconst (v := (iI 0)) E dX7_digest_102 (by decide) ?_
    refine x_istore_n (lv' := [(1, .int (iI 0)), (0, .ref (ad 12 0))]) E dX7_digest_103 rfl (by decide) rfl ?_
    exact x_weak [1, 0] rfl ((hL104 1000) (iI 0) w hm)
  have hL55 : ∀ (w : Wd), X7_digest_L55 w = some (r, w') → XV p l e { frames := 11, cells := 0, slots := 0, locals := 249 } s m args below meth c 2 D cs ad (MQ below (xQ D cs ad (some (.long r)) w') args s 0 0 (xF ad)) 55 [(0, .ref (ad 12 0))] [] w := by
    intro w hm
    unfold X7_digest_L55 at hm
    refine x_aload_n E dX7_digest_55 rfl 0 rfl ?_
    refine x_aload_n E dX7_digest_56 rfl 0 rfl ?_
    obtain ⟨r_7, w_8, hc, hm⟩ := bI_inv hm
    refine x_callV (As := []) (rest := [.ref (ad 12 0)]) E my_X7_judgedNow wG1033 (c_X7_judgedNow l D cs ad hc) rfl rfl rfl ⟨Nat.le_of_ble_eq_true rfl, Nat.le_of_ble_eq_true rfl⟩ (Nat.le_of_ble_eq_true rfl) dX7_digest_57 ?_
    refine x_i2l E dX7_digest_60 ?_
    obtain ⟨w_9, hc, hm⟩ := ob_inv hm
    refine x_callV (As := [.long (r_7.toInt64)]) (rest := []) E my_X7_mix wG1138 (c_X7_mix l D cs ad hc) rfl rfl rfl ⟨Nat.le_of_ble_eq_true rfl, Nat.le_of_ble_eq_true rfl⟩ (Nat.le_of_ble_eq_true rfl) dX7_digest_61 ?_
    refine x_aload_n E dX7_digest_64 rfl 0 rfl ?_
    obtain ⟨r_10, w_11, hc, hm⟩ := bI_inv hm
    refine x_callV (As := []) (rest := []) E my_X7_areCuts wG1093 (c_X7_areCuts l D cs ad hc) rfl rfl rfl ⟨Nat.le_of_ble_eq_true rfl, Nat.le_of_ble_eq_true rfl⟩ (Nat.le_of_ble_eq_true rfl) dX7_digest_65 ?_
    refine x_if_eq (tgt := 75) E dX7_digest_68 (by decide) hm (fun _ hm => ?_) (fun _ hm => ?_)
    · refine x_iconst (v := (iI 0)) E dX7_digest_75 (by decide) ?_
      refine x_istore_n (lv' := [(1, .int (iI 0)), (0, .ref (ad 12 0))]) E dX7_digest_76 rfl (by decide) rfl ?_
      exact x_weak [1, 0] rfl ((hL77 1000 _ (hL102)) (iI 0) w_11 hm)
    · refine x_aload_n E dX7_digest_71 rfl 0 rfl ?_
      obtain ⟨w_12, hc, hm⟩ := ob_inv hm
      refine x_callV (As := []) (rest := []) E my_X7_mixCuts wG1143 (c_X7_mixCuts l D cs ad hc) rfl rfl rfl ⟨Nat.le_of_ble_eq_true rfl, Nat.le_of_ble_eq_true rfl⟩ (Nat.le_of_ble_eq_true rfl) dX7_digest_72 ?_
      refine x_iconst (v := (iI 0)) E dX7_digest_75 (by decide) ?_
      refine x_istore_n (lv' := [(1, .int (iI 0)), (0, .ref (ad 12 0))]) E dX7_digest_76 rfl (by decide) rfl ?_
      exact x_weak [1, 0] rfl ((hL77 1000 _ (hL102)) (iI 0) w_12 hm)
  have hL28 : ∀ (w : Wd), X7_digest_L28 w = some (r, w') → XV p l e { frames := 11, cells := 0, slots := 0, locals := 249 } s m args below meth c 2 D cs ad (MQ below (xQ D cs ad (some (.long r)) w') args s 0 0 (xF ad)) 28 [(0, .ref (ad 12 0))] [] w := by
    intro w hm
    unfold X7_digest_L28 at hm
    refine x_iconst (v := (iI 0)) E dX7_digest_28 (by decide) ?_
    refine x_istore_n (lv' := [(1, .int (iI 0)), (0, .ref (ad 12 0))]) E dX7_digest_29 rfl (by decide) rfl ?_
    exact x_weak [1, 0] rfl ((hL30 1000 _ (hL55)) (iI 0) w hm)
  unfold X7_digest at hm
  refine x_aload_n E dX7_digest_0 rfl 0 rfl ?_
  refine x_ldc2 (v := (1511 : Int64)) E wG1133 dX7_digest_1 ?_
  refine x_pl E rfl fr_X7_310 dX7_digest_4 ?_
  refine x_bW hm (fun w_1 hm => ?_)
  refine x_iconst (v := (iI 0)) E dX7_digest_7 (by decide) ?_
  refine x_istore_n (lv' := [(1, .int (iI 0)), (0, .ref (ad 12 0))]) E dX7_digest_8 rfl (by decide) rfl ?_
  exact x_weak [1, 0] rfl ((hL9 1000 _ (hL28)) (iI 0) w_1 hm)
set_option maxRecDepth 100000 in
set_option maxHeartbeats 4000000 in
theorem c_X7_drop (l : Launch) (D : va_G) (cs : vCs) (ad : Nat → Nat → Nat) {w : Wd} {r : Int32} {w' : Wd} (hm : X7_drop w = some (r, w')) : Mc l yX7_drop cX7_drop 1 (some .int) 0 0 D cs ad [.ref (ad 12 0)] w (some (.int r)) w' := by
  refine Mc.of (by decide) (Nat.le_of_ble_eq_true rfl) ?_
  intro p e s m args below meth c E
  replace E : EV p m c cX7_drop 1 s args RX7 yX7_drop (some .int) meth D cs ad := E
  unfold X7_drop at hm
  refine x_aload_n E dX7_drop_0 rfl 0 rfl ?_
  refine x_gf (v := .int (rd w 12 0 0)) E fr_X7_110 rfl rfl dX7_drop_1 ?_
  refine x_if_ne (tgt := 10) E dX7_drop_4 (by decide) hm (fun _ hm => ?_) (fun _ hm => ?_)
  · refine x_aload_n E dX7_drop_10 rfl 0 rfl ?_
    refine x_dup E dX7_drop_11 rfl ?_
    refine x_gf (v := .int (rd w 12 0 0)) E fr_X7_110 rfl rfl dX7_drop_12 ?_
    refine x_iconst (v := (iI 1)) E dX7_drop_15 (by decide) ?_
    refine x_isub E dX7_drop_16 ?_
    refine x_pf E fr_X7_110 rfl (by decide) rfl rfl dX7_drop_17 ?_
    refine x_bW hm (fun w_1 hm => ?_)
    refine x_aload_n E dX7_drop_20 rfl 0 rfl ?_
    refine x_gf (v := .int (rd w_1 12 0 0)) E fr_X7_110 rfl rfl dX7_drop_21 ?_
    exact x_iretS E hm dX7_drop_24
  · refine x_bipush (v := (iI (-103))) E dX7_drop_7 (by decide) ?_
    exact x_iretS E hm dX7_drop_9
set_option maxRecDepth 100000 in
set_option maxHeartbeats 4000000 in
theorem c_X7_fault (l : Launch) (D : va_G) (cs : vCs) (ad : Nat → Nat → Nat) {w : Wd} {r : Int32} {w' : Wd} (hm : X7_fault w = some (r, w')) : Mc l yX7_fault cX7_fault 1 (some .int) 3 66 D cs ad [.ref (ad 12 0)] w (some (.int r)) w' := by
  refine Mc.of (by decide) (Nat.le_of_ble_eq_true rfl) ?_
  intro p e s m args below meth c E
  replace E : EV p m c cX7_fault 1 s args RX7 yX7_fault (some .int) meth D cs ad := E
  unfold X7_fault at hm
  refine x_aload_n E dX7_fault_0 rfl 0 rfl ?_
  obtain ⟨r_1, w_2, hc, hm⟩ := bI_inv hm
  refine x_callV (As := []) (rest := []) E my_X7_read wG825 (c_X7_read l D cs ad hc) rfl rfl rfl ⟨Nat.le_of_ble_eq_true rfl, Nat.le_of_ble_eq_true rfl⟩ (Nat.le_of_ble_eq_true rfl) dX7_fault_1 ?_
  exact x_iretS E hm dX7_fault_4
set_option maxRecDepth 100000 in
set_option maxHeartbeats 4000000 in
theorem c_X7_feed (l : Launch) (D : va_G) (cs : vCs) (ad : Nat → Nat → Nat) {w : Wd} {a1 : Int32} {r : Int32} {w' : Wd} (hm : X7_feed w a1 = some (r, w')) : Mc l yX7_feed cX7_feed 2 (some .int) 1 22 D cs ad [.ref (ad 12 0), .int a1] w (some (.int r)) w' := by
  refine Mc.of (by decide) (Nat.le_of_ble_eq_true rfl) ?_
  intro p e s m args below meth c E
  replace E : EV p m c cX7_feed 2 s args RX7 yX7_feed (some .int) meth D cs ad := E
  unfold X7_feed at hm
  refine x_iload_n E dX7_feed_0 rfl 1 rfl ?_
  refine x_iconst (v := (iI 0)) E dX7_feed_1 (by decide) ?_
  refine x_bipush (v := (iI 7)) E dX7_feed_2 (by decide) ?_
  refine x_callS (As := [.int a1, .int (iI 0), .int (iI 7)]) (rest := []) E my_X7_within wG814 (c_X7_within l D cs ad rfl) rfl ⟨Nat.le_of_ble_eq_true rfl, Nat.le_of_ble_eq_true rfl⟩ (Nat.le_of_ble_eq_true rfl) dX7_feed_4 ?_
  refine x_if_ne (tgt := 13) E dX7_feed_7 (by decide) hm (fun _ hm => ?_) (fun _ hm => ?_)
  · refine x_aload_n E dX7_feed_13 rfl 0 rfl ?_
    refine x_gf (v := .int (rd w 12 0 8)) E fr_X7_133 rfl rfl dX7_feed_14 ?_
    refine x_aload_n E dX7_feed_17 rfl 0 rfl ?_
    refine x_gf (v := .int (rd w 12 0 7)) E fr_X7_22 rfl rfl dX7_feed_18 ?_
    refine x_icmp_ne (tgt := 27) E dX7_feed_21 (by decide) hm (fun _ hm => ?_) (fun _ hm => ?_)
    · refine x_aload_n E dX7_feed_27 rfl 0 rfl ?_
      refine x_iload_n E dX7_feed_28 rfl 1 rfl ?_
      obtain ⟨w_1, hc, hm⟩ := ob_inv hm
      refine x_callV (As := [.int a1]) (rest := []) E my_X7_comes wG886 (c_X7_comes l D cs ad hc) rfl rfl rfl ⟨Nat.le_of_ble_eq_true rfl, Nat.le_of_ble_eq_true rfl⟩ (Nat.le_of_ble_eq_true rfl) dX7_feed_29 ?_
      refine x_aload_n E dX7_feed_32 rfl 0 rfl ?_
      refine x_gf (v := .int (rd w_1 12 0 8)) E fr_X7_133 rfl rfl dX7_feed_33 ?_
      exact x_iretS E hm dX7_feed_36
    · refine x_bipush (v := (iI (-104))) E dX7_feed_24 (by decide) ?_
      exact x_iretS E hm dX7_feed_26
  · refine x_bipush (v := (iI (-102))) E dX7_feed_10 (by decide) ?_
    exact x_iretS E hm dX7_feed_12
set_option maxRecDepth 100000 in
set_option maxHeartbeats 4000000 in
theorem c_X7_feeds (l : Launch) (D : va_G) (cs : vCs) (ad : Nat → Nat → Nat) {w : Wd} {r : Int32} {w' : Wd} (hm : X7_feeds w = some (r, w')) : Mc l yX7_feeds cX7_feeds 3 (some .int) 1 22 D cs ad [.ref (ad 12 0)] w (some (.int r)) w' := by
  refine Mc.of (by decide) (Nat.le_of_ble_eq_true rfl) ?_
  intro p e s m args below meth c E
  replace E : EV p m c cX7_feeds 3 s args RX7 yX7_feeds (some .int) meth D cs ad := E
  have hL4 : ∀ (fuel : Nat) (k44 : Int32 → Wd → Option (Int32 × Wd)) (hk44 : ∀ (b1 : Int32) (w : Wd), k44 b1 w = some (r, w') → XV p l e { frames := 1, cells := 0, slots := 0, locals := 22 } s m args below meth c 3 D cs ad (MQ below (xQ D cs ad (some (.int r)) w') args s 0 0 (xF ad)) 44 [(0, .ref (ad 12 0)), (1, .int b1)] [] w) (b1 : Int32) (b2 : Int32) (w : Wd), X7_feeds_L4 fuel k44 b1 b2 w = some (r, w') → XV p l e { frames := 1, cells := 0, slots := 0, locals := 22 } s m args below meth c 3 D cs ad (MQ below (xQ D cs ad (some (.int r)) w') args s 0 0 (xF ad)) 4 [(0, .ref (ad 12 0)), (1, .int b1), (2, .int b2)] [] w := by
    intro fuel
    induction fuel with
    | zero => intro k44 hk44 b1 b2 w hm; cases hm
    | succ fuel ih =>
      intro k44 hk44 b1 b2 w hm
      rw [X7_feeds_L4] at hm
      refine x_iload_n E dX7_feeds_4 rfl 2 rfl ?_
      refine x_aload_n E dX7_feeds_5 rfl 0 rfl ?_
      refine x_gf (v := .int (rd w 12 0 10)) E fr_X7_79 rfl rfl dX7_feeds_6 ?_
      refine x_icmp_ge (tgt := 44) E dX7_feeds_9 (by decide) hm (fun _ hm => ?_) (fun _ hm => ?_)
      · exact x_weak [0, 1] rfl (hk44 b1 w hm)
      · refine x_iload_n E dX7_feeds_12 rfl 1 rfl ?_
        refine x_if_eq (tgt := 36) E dX7_feeds_13 (by decide) hm (fun _ hm => ?_) (fun _ hm => ?_)
        · refine x_iconst (v := (iI 0)) E dX7_feeds_36 (by decide) ?_
          refine x_istore_n (lv' := [(1, .int (iI 0)), (0, .ref (ad 12 0)), (2, .int b2)]) E dX7_feeds_37 rfl (by decide) rfl ?_
          refine x_iincB (lv' := fun x_1 => [(2, .int x_1), (1, .int (iI 0)), (0, .ref (ad 12 0))]) (j := 2) E dX7_feeds_38 rfl rfl (by decide) (fun _ => rfl) hm (fun x_1 hm => ?_)
          refine x_goto (tgt := 4) E dX7_feeds_41 (by decide) ?_
          exact x_weak [2, 1, 0] rfl ((ih _ hk44) (iI 0) x_1 w hm)
        · refine x_aload_n E dX7_feeds_16 rfl 0 rfl ?_
          refine x_gf (v := .ref (ad 12 6)) E fr_X7_29 rfl rfl dX7_feeds_17 ?_
          refine x_iload_n E dX7_feeds_20 rfl 2 rfl ?_
          refine x_iald E rfl rfl (by decide) dX7_feeds_21 hm (fun x_2 hm => ?_)
          refine x_bipush (v := (iI 48)) E dX7_feeds_22 (by decide) ?_
          refine x_bipush (v := (iI 55)) E dX7_feeds_24 (by decide) ?_
          refine x_callS (As := [.int x_2, .int (iI 48), .int (iI 55)]) (rest := []) E my_X7_within wG814 (c_X7_within l D cs ad rfl) rfl ⟨Nat.le_of_ble_eq_true rfl, Nat.le_of_ble_eq_true rfl⟩ (Nat.le_of_ble_eq_true rfl) dX7_feeds_26 ?_
          refine x_if_eq (tgt := 36) E dX7_feeds_29 (by decide) hm (fun _ hm => ?_) (fun _ hm => ?_)
          · refine x_iconst (v := (iI 0)) E dX7_feeds_36 (by decide) ?_
            refine x_istore_n (lv' := [(1, .int (iI 0)), (0, .ref (ad 12 0)), (2, .int b2)]) E dX7_feeds_37 rfl (by decide) rfl ?_
            refine x_iincB (lv' := fun x_3 => [(2, .int x_3), (1, .int (iI 0)), (0, .ref (ad 12 0))]) (j := 2) E dX7_feeds_38 rfl rfl (by decide) (fun _ => rfl) hm (fun x_3 hm => ?_)
            refine x_goto (tgt := 4) E dX7_feeds_41 (by decide) ?_
            exact x_weak [2, 1, 0] rfl ((ih _ hk44) (iI 0) x_3 w hm)
          · refine x_iconst (v := (iI 1)) E dX7_feeds_32 (by decide) ?_
            refine x_goto (tgt := 37) E dX7_feeds_33 (by decide) ?_
            refine x_istore_n (lv' := [(1, .int (iI 1)), (0, .ref (ad 12 0)), (2, .int b2)]) E dX7_feeds_37 rfl (by decide) rfl ?_
            refine x_iincB (lv' := fun x_4 => [(2, .int x_4), (1, .int (iI 1)), (0, .ref (ad 12 0))]) (j := 2) E dX7_feeds_38 rfl rfl (by decide) (fun _ => rfl) hm (fun x_4 hm => ?_)
            refine x_goto (tgt := 4) E dX7_feeds_41 (by decide) ?_
            exact x_weak [2, 1, 0] rfl ((ih _ hk44) (iI 1) x_4 w hm)
  have hL72 : ∀ (fuel : Nat) (b2 : Int32) (w : Wd), X7_feeds_L72 fuel b2 w = some (r, w') → XV p l e { frames := 1, cells := 0, slots := 0, locals := 22 } s m args below meth c 3 D cs ad (MQ below (xQ D cs ad (some (.int r)) w') args s 0 0 (xF ad)) 72 [(0, .ref (ad 12 0)), (2, .int b2)] [] w := by
    intro fuel
    induction fuel with
    | zero => intro b2 w hm; cases hm
    | succ fuel ih =>
      intro b2 w hm
      rw [X7_feeds_L72] at hm
      refine x_iload_n E dX7_feeds_72 rfl 1 rfl ?_
      refine x_aload_n E dX7_feeds_73 rfl 0 rfl ?_
      refine x_gf (v := .int (rd w 12 0 10)) E fr_X7_79 rfl rfl dX7_feeds_74 ?_
      refine x_icmp_ge (tgt := 99) E dX7_feeds_77 (by decide) hm (fun _ hm => ?_) (fun _ hm => ?_)
      · refine x_aload_n E dX7_feeds_99 rfl 0 rfl ?_
        refine x_iconst (v := (iI 0)) E dX7_feeds_100 (by decide) ?_
        refine x_pf E fr_X7_79 rfl (by decide) rfl rfl dX7_feeds_101 ?_
        refine x_bW hm (fun w_5 hm => ?_)
        refine x_aload_n E dX7_feeds_104 rfl 0 rfl ?_
        refine x_gf (v := .int (rd w_5 12 0 8)) E fr_X7_133 rfl rfl dX7_feeds_105 ?_
        exact x_iretS E hm dX7_feeds_108
      · refine x_aload_n E dX7_feeds_80 rfl 0 rfl ?_
        refine x_aload_n E dX7_feeds_81 rfl 0 rfl ?_
        refine x_gf (v := .ref (ad 12 6)) E fr_X7_29 rfl rfl dX7_feeds_82 ?_
        refine x_iload_n E dX7_feeds_85 rfl 1 rfl ?_
        refine x_iald E rfl rfl (by decide) dX7_feeds_86 hm (fun x_6 hm => ?_)
        refine x_bipush (v := (iI 48)) E dX7_feeds_87 (by decide) ?_
        refine x_isub E dX7_feeds_89 ?_
        obtain ⟨w_7, hc, hm⟩ := ob_inv hm
        refine x_callV (As := [.int (x_6 - (iI 48))]) (rest := []) E my_X7_comes wG886 (c_X7_comes l D cs ad hc) rfl rfl rfl ⟨Nat.le_of_ble_eq_true rfl, Nat.le_of_ble_eq_true rfl⟩ (Nat.le_of_ble_eq_true rfl) dX7_feeds_90 ?_
        refine x_iincB (lv' := fun x_8 => [(2, .int x_8), (0, .ref (ad 12 0))]) (j := 1) E dX7_feeds_93 rfl rfl (by decide) (fun _ => rfl) hm (fun x_8 hm => ?_)
        refine x_goto (tgt := 72) E dX7_feeds_96 (by decide) ?_
        exact x_weak [1, 0] rfl ((ih) x_8 w_7 hm)
  have hL44 : ∀ (b1 : Int32) (w : Wd), X7_feeds_L44 b1 w = some (r, w') → XV p l e { frames := 1, cells := 0, slots := 0, locals := 22 } s m args below meth c 3 D cs ad (MQ below (xQ D cs ad (some (.int r)) w') args s 0 0 (xF ad)) 44 [(0, .ref (ad 12 0)), (1, .int b1)] [] w := by
    intro b1 w hm
    unfold X7_feeds_L44 at hm
    refine x_iload_n E dX7_feeds_44 rfl 1 rfl ?_
    refine x_if_ne (tgt := 51) E dX7_feeds_45 (by decide) hm (fun _ hm => ?_) (fun _ hm => ?_)
    · refine x_aload_n E dX7_feeds_51 rfl 0 rfl ?_
      refine x_gf (v := .int (rd w 12 0 8)) E fr_X7_133 rfl rfl dX7_feeds_52 ?_
      refine x_aload_n E dX7_feeds_55 rfl 0 rfl ?_
      refine x_gf (v := .int (rd w 12 0 10)) E fr_X7_79 rfl rfl dX7_feeds_56 ?_
      refine x_iadd E dX7_feeds_59 ?_
      refine x_aload_n E dX7_feeds_60 rfl 0 rfl ?_
      refine x_gf (v := .int (rd w 12 0 7)) E fr_X7_22 rfl rfl dX7_feeds_61 ?_
      refine x_icmp_le (tgt := 70) E dX7_feeds_64 (by decide) hm (fun _ hm => ?_) (fun _ hm => ?_)
      · refine x_iconst (v := (iI 0)) E dX7_feeds_70 (by decide) ?_
        refine x_istore_n (lv' := [(2, .int (iI 0)), (0, .ref (ad 12 0)), (1, .int b1)]) E dX7_feeds_71 rfl (by decide) rfl ?_
        exact x_weak [1, 0] rfl ((hL72 1000) (iI 0) w hm)
      · refine x_bipush (v := (iI (-104))) E dX7_feeds_67 (by decide) ?_
        exact x_iretS E hm dX7_feeds_69
    · refine x_bipush (v := (iI (-103))) E dX7_feeds_48 (by decide) ?_
      exact x_iretS E hm dX7_feeds_50
  unfold X7_feeds at hm
  refine x_iconst (v := (iI 1)) E dX7_feeds_0 (by decide) ?_
  refine x_istore_n (lv' := [(1, .int (iI 1)), (0, .ref (ad 12 0))]) E dX7_feeds_1 rfl (by decide) rfl ?_
  refine x_iconst (v := (iI 0)) E dX7_feeds_2 (by decide) ?_
  refine x_istore_n (lv' := [(2, .int (iI 0)), (1, .int (iI 1)), (0, .ref (ad 12 0))]) E dX7_feeds_3 rfl (by decide) rfl ?_
  exact x_weak [2, 1, 0] rfl ((hL4 1000 _ (hL44)) (iI 1) (iI 0) w hm)
set_option maxRecDepth 100000 in
set_option maxHeartbeats 4000000 in
theorem c_X7_ink (l : Launch) (D : va_G) (cs : vCs) (ad : Nat → Nat → Nat) {w : Wd} {a1 : Int32} {a2 : Int32} {r : Int32} (hm : X7_ink w a1 a2 = some r) : Mc l yX7_ink cX7_ink 3 (some .int) 2 44 D cs ad [.ref (ad 12 0), .int a1, .int a2] w (some (.int r)) w := by
  refine Mc.of (by decide) (Nat.le_of_ble_eq_true rfl) ?_
  intro p e s m args below meth c E
  replace E : EV p m c cX7_ink 3 s args RX7 yX7_ink (some .int) meth D cs ad := E
  unfold X7_ink at hm
  refine x_aload_n E dX7_ink_0 rfl 0 rfl ?_
  refine x_iload_n E dX7_ink_1 rfl 1 rfl ?_
  refine x_callV (As := [.int a1]) (rest := []) E my_X7_isCode wG864 (c_X7_isCode l D cs ad rfl) rfl rfl rfl ⟨Nat.le_of_ble_eq_true rfl, Nat.le_of_ble_eq_true rfl⟩ (Nat.le_of_ble_eq_true rfl) dX7_ink_2 ?_
  refine x_if_eq (tgt := 36) E dX7_ink_5 (by decide) hm (fun _ hm => ?_) (fun _ hm => ?_)
  · refine x_bipush (v := (iI (-101))) E dX7_ink_36 (by decide) ?_
    exact x_iretP E hm dX7_ink_38
  · refine x_iload_n E dX7_ink_8 rfl 2 rfl ?_
    refine x_iconst (v := (iI 0)) E dX7_ink_9 (by decide) ?_
    refine x_aload_n E dX7_ink_10 rfl 0 rfl ?_
    refine x_gf (v := .ref (ad 12 1)) E fr_X7_7 rfl rfl dX7_ink_11 ?_
    refine x_iload_n E dX7_ink_14 rfl 1 rfl ?_
    refine x_iald E rfl rfl (by decide) dX7_ink_15 hm (fun x_1 hm => ?_)
    refine x_callS (As := [.int x_1]) (rest := [.int (iI 0), .int a2]) E my_X7_lettersOf wG849 (c_X7_lettersOf l D cs ad rfl) rfl ⟨Nat.le_of_ble_eq_true rfl, Nat.le_of_ble_eq_true rfl⟩ (Nat.le_of_ble_eq_true rfl) dX7_ink_16 ?_
    refine x_iconst (v := (iI 1)) E dX7_ink_19 (by decide) ?_
    refine x_isub E dX7_ink_20 ?_
    refine x_callS (As := [.int a2, .int (iI 0), .int ((X7_lettersOf x_1) - (iI 1))]) (rest := []) E my_X7_within wG814 (c_X7_within l D cs ad rfl) rfl ⟨Nat.le_of_ble_eq_true rfl, Nat.le_of_ble_eq_true rfl⟩ (Nat.le_of_ble_eq_true rfl) dX7_ink_21 ?_
    refine x_if_eq (tgt := 36) E dX7_ink_24 (by decide) hm (fun _ hm => ?_) (fun _ hm => ?_)
    · refine x_bipush (v := (iI (-101))) E dX7_ink_36 (by decide) ?_
      exact x_iretP E hm dX7_ink_38
    · refine x_aload_n E dX7_ink_27 rfl 0 rfl ?_
      refine x_iload_n E dX7_ink_28 rfl 1 rfl ?_
      refine x_iload_n E dX7_ink_29 rfl 2 rfl ?_
      obtain ⟨r_2, hc, hm⟩ := ob_inv hm
      refine x_callV (As := [.int a1, .int a2]) (rest := []) E my_X7_inkNow wG868 (c_X7_inkNow l D cs ad hc) rfl rfl rfl ⟨Nat.le_of_ble_eq_true rfl, Nat.le_of_ble_eq_true rfl⟩ (Nat.le_of_ble_eq_true rfl) dX7_ink_30 ?_
      refine x_goto (tgt := 38) E dX7_ink_33 (by decide) ?_
      exact x_iretP E hm dX7_ink_38
set_option maxRecDepth 100000 in
set_option maxHeartbeats 4000000 in
theorem c_X7_judged (l : Launch) (D : va_G) (cs : vCs) (ad : Nat → Nat → Nat) {w : Wd} {r : Int32} {w' : Wd} (hm : X7_judged w = some (r, w')) : Mc l yX7_judged cX7_judged 1 (some .int) 7 159 D cs ad [.ref (ad 12 0)] w (some (.int r)) w' := by
  refine Mc.of (by decide) (Nat.le_of_ble_eq_true rfl) ?_
  intro p e s m args below meth c E
  replace E : EV p m c cX7_judged 1 s args RX7 yX7_judged (some .int) meth D cs ad := E
  unfold X7_judged at hm
  refine x_aload_n E dX7_judged_0 rfl 0 rfl ?_
  obtain ⟨r_1, w_2, hc, hm⟩ := bI_inv hm
  refine x_callV (As := []) (rest := []) E my_X7_judgedNow wG1033 (c_X7_judgedNow l D cs ad hc) rfl rfl rfl ⟨Nat.le_of_ble_eq_true rfl, Nat.le_of_ble_eq_true rfl⟩ (Nat.le_of_ble_eq_true rfl) dX7_judged_1 ?_
  exact x_iretS E hm dX7_judged_4
set_option maxRecDepth 100000 in
set_option maxHeartbeats 4000000 in
theorem c_X7_leastTo (l : Launch) (D : va_G) (cs : vCs) (ad : Nat → Nat → Nat) {w : Wd} {a1 : Int32} {a2 : Int32} {a3 : Int32} {a4 : Int32} {r : Int32} {w' : Wd} (hm : X7_leastTo w a1 a2 a3 a4 = some (r, w')) : Mc l yX7_leastTo cX7_leastTo 7 (some .int) 4 95 D cs ad [.ref (ad 12 0), .int a1, .int a2, .int a3, .int a4] w (some (.int r)) w' := by
  refine Mc.of (by decide) (Nat.le_of_ble_eq_true rfl) ?_
  intro p e s m args below meth c E
  replace E : EV p m c cX7_leastTo 7 s args RX7 yX7_leastTo (some .int) meth D cs ad := E
  have hL14 : ∀ (fuel : Nat) (b1 : Int32) (b2 : Int32) (b3 : Int32) (b4 : Int32) (b5 : Int32) (b6 : Int32) (w : Wd), X7_leastTo_L14 fuel b1 b2 b3 b4 b5 b6 w = some (r, w') → XV p l e { frames := 4, cells := 0, slots := 0, locals := 95 } s m args below meth c 7 D cs ad (MQ below (xQ D cs ad (some (.int r)) w') args s 0 0 (xF ad)) 14 [(0, .ref (ad 12 0)), (1, .int b1), (2, .int b2), (3, .int b3), (4, .int b4), (5, .int b5), (6, .int b6)] [] w := by
    intro fuel
    induction fuel with
    | zero => intro b1 b2 b3 b4 b5 b6 w hm; cases hm
    | succ fuel ih =>
      intro b1 b2 b3 b4 b5 b6 w hm
      rw [X7_leastTo_L14] at hm
      refine x_iload E dX7_leastTo_14 6 rfl ?_
      refine x_iconst (v := (iI (-1))) E dX7_leastTo_16 (by decide) ?_
      refine x_icmp_eq (tgt := 30) E dX7_leastTo_17 (by decide) hm (fun _ hm => ?_) (fun _ hm => ?_)
      · refine x_iincB (lv' := fun x_3 => [(5, .int x_3), (0, .ref (ad 12 0)), (1, .int b1), (2, .int b2), (3, .int b3), (4, .int b4), (6, .int b6)]) (j := 5) E dX7_leastTo_30 rfl rfl (by decide) (fun _ => rfl) hm (fun x_3 hm => ?_)
        refine x_aload_n E dX7_leastTo_33 rfl 1 rfl ?_
        refine x_iload_n E dX7_leastTo_34 rfl 2 rfl ?_
        refine x_iload_n E dX7_leastTo_35 rfl 3 rfl ?_
        refine x_iload_n E dX7_leastTo_36 rfl 4 rfl ?_
        refine x_iload E dX7_leastTo_37 0 rfl ?_
        obtain ⟨r_4, w_5, hc, hm⟩ := bI_inv hm
        refine x_callV (As := [.int b1, .int b2, .int b3, .int x_3]) (rest := []) E my_X7_bothBehind wG1073 (c_X7_bothBehind l D cs ad hc) rfl rfl rfl ⟨Nat.le_of_ble_eq_true rfl, Nat.le_of_ble_eq_true rfl⟩ (Nat.le_of_ble_eq_true rfl) dX7_leastTo_39 ?_
        refine x_istore (lv' := [(6, .int r_4), (5, .int x_3), (0, .ref (ad 12 0)), (1, .int b1), (2, .int b2), (3, .int b3), (4, .int b4)]) E dX7_leastTo_42 (by decide) rfl ?_
        refine x_goto (tgt := 14) E dX7_leastTo_44 (by decide) ?_
        exact x_weak [2, 3, 4, 5, 6, 1, 0] rfl ((ih) b1 b2 b3 b4 x_3 r_4 w_5 hm)
      · refine x_iload E dX7_leastTo_20 4 rfl ?_
        refine x_iload E dX7_leastTo_22 6 rfl ?_
        refine x_ishr E dX7_leastTo_24 ?_
        refine x_iconst (v := (iI 1)) E dX7_leastTo_25 (by decide) ?_
        refine x_iand E dX7_leastTo_26 ?_
        refine x_if_ne (tgt := 47) E dX7_leastTo_27 (by decide) hm (fun _ hm => ?_) (fun _ hm => ?_)
        · refine x_iload E dX7_leastTo_47 5 rfl ?_
          exact x_iretS E hm dX7_leastTo_49
        · refine x_iincB (lv' := fun x_6 => [(5, .int x_6), (0, .ref (ad 12 0)), (1, .int b1), (2, .int b2), (3, .int b3), (4, .int b4), (6, .int b6)]) (j := 5) E dX7_leastTo_30 rfl rfl (by decide) (fun _ => rfl) hm (fun x_6 hm => ?_)
          refine x_aload_n E dX7_leastTo_33 rfl 1 rfl ?_
          refine x_iload_n E dX7_leastTo_34 rfl 2 rfl ?_
          refine x_iload_n E dX7_leastTo_35 rfl 3 rfl ?_
          refine x_iload_n E dX7_leastTo_36 rfl 4 rfl ?_
          refine x_iload E dX7_leastTo_37 0 rfl ?_
          obtain ⟨r_7, w_8, hc, hm⟩ := bI_inv hm
          refine x_callV (As := [.int b1, .int b2, .int b3, .int x_6]) (rest := []) E my_X7_bothBehind wG1073 (c_X7_bothBehind l D cs ad hc) rfl rfl rfl ⟨Nat.le_of_ble_eq_true rfl, Nat.le_of_ble_eq_true rfl⟩ (Nat.le_of_ble_eq_true rfl) dX7_leastTo_39 ?_
          refine x_istore (lv' := [(6, .int r_7), (5, .int x_6), (0, .ref (ad 12 0)), (1, .int b1), (2, .int b2), (3, .int b3), (4, .int b4)]) E dX7_leastTo_42 (by decide) rfl ?_
          refine x_goto (tgt := 14) E dX7_leastTo_44 (by decide) ?_
          exact x_weak [2, 3, 4, 5, 6, 1, 0] rfl ((ih) b1 b2 b3 b4 x_6 r_7 w_8 hm)
  unfold X7_leastTo at hm
  refine x_iconst (v := (iI 0)) E dX7_leastTo_0 (by decide) ?_
  refine x_istore (lv' := [(5, .int (iI 0)), (0, .ref (ad 12 0)), (1, .int a1), (2, .int a2), (3, .int a3), (4, .int a4)]) E dX7_leastTo_1 (by decide) rfl ?_
  refine x_aload_n E dX7_leastTo_3 rfl 1 rfl ?_
  refine x_iload_n E dX7_leastTo_4 rfl 2 rfl ?_
  refine x_iload_n E dX7_leastTo_5 rfl 3 rfl ?_
  refine x_iload_n E dX7_leastTo_6 rfl 4 rfl ?_
  refine x_iload E dX7_leastTo_7 0 rfl ?_
  obtain ⟨r_1, w_2, hc, hm⟩ := bI_inv hm
  refine x_callV (As := [.int a1, .int a2, .int a3, .int (iI 0)]) (rest := []) E my_X7_bothBehind wG1073 (c_X7_bothBehind l D cs ad hc) rfl rfl rfl ⟨Nat.le_of_ble_eq_true rfl, Nat.le_of_ble_eq_true rfl⟩ (Nat.le_of_ble_eq_true rfl) dX7_leastTo_9 ?_
  refine x_istore (lv' := [(6, .int r_1), (5, .int (iI 0)), (0, .ref (ad 12 0)), (1, .int a1), (2, .int a2), (3, .int a3), (4, .int a4)]) E dX7_leastTo_12 (by decide) rfl ?_
  exact x_weak [2, 3, 4, 5, 6, 1, 0] rfl ((hL14 1000) a1 a2 a3 a4 (iI 0) r_1 w_2 hm)
set_option maxRecDepth 100000 in
set_option maxHeartbeats 4000000 in
theorem c_X7_letter (l : Launch) (D : va_G) (cs : vCs) (ad : Nat → Nat → Nat) {w : Wd} {a1 : Int32} {r : Int32} {w' : Wd} (hm : X7_letter w a1 = some (r, w')) : Mc l yX7_letter cX7_letter 2 (some .int) 1 22 D cs ad [.ref (ad 12 0), .int a1] w (some (.int r)) w' := by
  refine Mc.of (by decide) (Nat.le_of_ble_eq_true rfl) ?_
  intro p e s m args below meth c E
  replace E : EV p m c cX7_letter 2 s args RX7 yX7_letter (some .int) meth D cs ad := E
  unfold X7_letter at hm
  refine x_iload_n E dX7_letter_0 rfl 1 rfl ?_
  refine x_bipush (v := (iI 32)) E dX7_letter_1 (by decide) ?_
  refine x_bipush (v := (iI 126)) E dX7_letter_3 (by decide) ?_
  refine x_callS (As := [.int a1, .int (iI 32), .int (iI 126)]) (rest := []) E my_X7_within wG814 (c_X7_within l D cs ad rfl) rfl ⟨Nat.le_of_ble_eq_true rfl, Nat.le_of_ble_eq_true rfl⟩ (Nat.le_of_ble_eq_true rfl) dX7_letter_5 ?_
  refine x_if_ne (tgt := 14) E dX7_letter_8 (by decide) hm (fun _ hm => ?_) (fun _ hm => ?_)
  · refine x_aload_n E dX7_letter_14 rfl 0 rfl ?_
    refine x_gf (v := .int (rd w 12 0 10)) E fr_X7_79 rfl rfl dX7_letter_15 ?_
    refine x_bipush (v := (iI 40)) E dX7_letter_18 (by decide) ?_
    refine x_icmp_ne (tgt := 26) E dX7_letter_20 (by decide) hm (fun _ hm => ?_) (fun _ hm => ?_)
    · refine x_aload_n E dX7_letter_26 rfl 0 rfl ?_
      refine x_gf (v := .ref (ad 12 6)) E fr_X7_29 rfl rfl dX7_letter_27 ?_
      refine x_aload_n E dX7_letter_30 rfl 0 rfl ?_
      refine x_gf (v := .int (rd w 12 0 10)) E fr_X7_79 rfl rfl dX7_letter_31 ?_
      refine x_iload_n E dX7_letter_34 rfl 1 rfl ?_
      refine x_iast E rfl rfl (by decide) dX7_letter_35 hm (fun w_1 hm => ?_)
      refine x_aload_n E dX7_letter_36 rfl 0 rfl ?_
      refine x_dup E dX7_letter_37 rfl ?_
      refine x_gf (v := .int (rd w_1 12 0 10)) E fr_X7_79 rfl rfl dX7_letter_38 ?_
      refine x_iconst (v := (iI 1)) E dX7_letter_41 (by decide) ?_
      refine x_iadd E dX7_letter_42 ?_
      refine x_pf E fr_X7_79 rfl (by decide) rfl rfl dX7_letter_43 ?_
      refine x_bW hm (fun w_2 hm => ?_)
      refine x_aload_n E dX7_letter_46 rfl 0 rfl ?_
      refine x_gf (v := .int (rd w_2 12 0 10)) E fr_X7_79 rfl rfl dX7_letter_47 ?_
      exact x_iretS E hm dX7_letter_50
    · refine x_bipush (v := (iI (-104))) E dX7_letter_23 (by decide) ?_
      exact x_iretS E hm dX7_letter_25
  · refine x_bipush (v := (iI (-102))) E dX7_letter_11 (by decide) ?_
    exact x_iretS E hm dX7_letter_13
set_option maxRecDepth 100000 in
set_option maxHeartbeats 4000000 in
theorem c_X7_open (l : Launch) (D : va_G) (cs : vCs) (ad : Nat → Nat → Nat) {w : Wd} {a1 : Int32} {r : Int32} {w' : Wd} (hm : X7_open w a1 = some (r, w')) : Mc l yX7_open cX7_open 3 (some .int) 1 22 D cs ad [.ref (ad 12 0), .int a1] w (some (.int r)) w' := by
  refine Mc.of (by decide) (Nat.le_of_ble_eq_true rfl) ?_
  intro p e s m args below meth c E
  replace E : EV p m c cX7_open 3 s args RX7 yX7_open (some .int) meth D cs ad := E
  unfold X7_open at hm
  refine x_iload_n E dX7_open_0 rfl 1 rfl ?_
  refine x_iconst (v := (iI 1)) E dX7_open_1 (by decide) ?_
  refine x_bipush (v := (iI 40)) E dX7_open_2 (by decide) ?_
  refine x_callS (As := [.int a1, .int (iI 1), .int (iI 40)]) (rest := []) E my_X7_within wG814 (c_X7_within l D cs ad rfl) rfl ⟨Nat.le_of_ble_eq_true rfl, Nat.le_of_ble_eq_true rfl⟩ (Nat.le_of_ble_eq_true rfl) dX7_open_4 ?_
  refine x_if_ne (tgt := 13) E dX7_open_7 (by decide) hm (fun _ hm => ?_) (fun _ hm => ?_)
  · refine x_aload_n E dX7_open_13 rfl 0 rfl ?_
    refine x_gf (v := .int (rd w 12 0 8)) E fr_X7_133 rfl rfl dX7_open_14 ?_
    refine x_bI hm (fun x_1 hm => ?_)
    refine x_istore_n (lv' := [(2, .int x_1), (0, .ref (ad 12 0)), (1, .int a1)]) E dX7_open_17 rfl (by decide) rfl ?_
    refine x_aload_n E dX7_open_18 rfl 1 rfl ?_
    refine x_iload_n E dX7_open_19 rfl 2 rfl ?_
    refine x_pf E fr_X7_22 rfl (by decide) rfl rfl dX7_open_20 ?_
    refine x_bW hm (fun w_2 hm => ?_)
    refine x_aload_n E dX7_open_23 rfl 1 rfl ?_
    refine x_iconst (v := (iI 0)) E dX7_open_24 (by decide) ?_
    refine x_pf E fr_X7_133 rfl (by decide) rfl rfl dX7_open_25 ?_
    refine x_bW hm (fun w_3 hm => ?_)
    refine x_iload_n E dX7_open_28 rfl 0 rfl ?_
    exact x_iretS E hm dX7_open_29
  · refine x_bipush (v := (iI (-102))) E dX7_open_10 (by decide) ?_
    exact x_iretS E hm dX7_open_12
set_option maxRecDepth 100000 in
set_option maxHeartbeats 4000000 in
theorem c_X7_pairs (l : Launch) (D : va_G) (cs : vCs) (ad : Nat → Nat → Nat) {w : Wd} {a1 : Int32} {a2 : Int32} {r : Int32} {w' : Wd} (hm : X7_pairs w a1 a2 = some (r, w')) : Mc l yX7_pairs cX7_pairs 3 (some .int) 6 137 D cs ad [.ref (ad 12 0), .int a1, .int a2] w (some (.int r)) w' := by
  refine Mc.of (by decide) (Nat.le_of_ble_eq_true rfl) ?_
  intro p e s m args below meth c E
  replace E : EV p m c cX7_pairs 3 s args RX7 yX7_pairs (some .int) meth D cs ad := E
  unfold X7_pairs at hm
  refine x_aload_n E dX7_pairs_0 rfl 0 rfl ?_
  refine x_iload_n E dX7_pairs_1 rfl 1 rfl ?_
  refine x_callV (As := [.int a1]) (rest := []) E my_X7_isCode wG864 (c_X7_isCode l D cs ad rfl) rfl rfl rfl ⟨Nat.le_of_ble_eq_true rfl, Nat.le_of_ble_eq_true rfl⟩ (Nat.le_of_ble_eq_true rfl) dX7_pairs_2 ?_
  refine x_if_ne (tgt := 13) E dX7_pairs_5 (by decide) hm (fun _ hm => ?_) (fun _ hm => ?_)
  · refine x_iload_n E dX7_pairs_13 rfl 2 rfl ?_
    refine x_iconst (v := (iI 0)) E dX7_pairs_14 (by decide) ?_
    refine x_iconst (v := (iI 3)) E dX7_pairs_15 (by decide) ?_
    refine x_callS (As := [.int a2, .int (iI 0), .int (iI 3)]) (rest := []) E my_X7_within wG814 (c_X7_within l D cs ad rfl) rfl ⟨Nat.le_of_ble_eq_true rfl, Nat.le_of_ble_eq_true rfl⟩ (Nat.le_of_ble_eq_true rfl) dX7_pairs_16 ?_
    refine x_if_eq (tgt := 31) E dX7_pairs_19 (by decide) hm (fun _ hm => ?_) (fun _ hm => ?_)
    · refine x_bipush (v := (iI (-102))) E dX7_pairs_31 (by decide) ?_
      exact x_iretS E hm dX7_pairs_33
    · refine x_aload_n E dX7_pairs_22 rfl 0 rfl ?_
      refine x_iload_n E dX7_pairs_23 rfl 1 rfl ?_
      refine x_iload_n E dX7_pairs_24 rfl 2 rfl ?_
      obtain ⟨r_1, w_2, hc, hm⟩ := bI_inv hm
      refine x_callV (As := [.int a1, .int a2]) (rest := []) E my_X7_pairsOf wG1025 (c_X7_pairsOf l D cs ad hc) rfl rfl rfl ⟨Nat.le_of_ble_eq_true rfl, Nat.le_of_ble_eq_true rfl⟩ (Nat.le_of_ble_eq_true rfl) dX7_pairs_25 ?_
      refine x_goto (tgt := 33) E dX7_pairs_28 (by decide) ?_
      exact x_iretS E hm dX7_pairs_33
  · refine x_bipush (v := (iI (-101))) E dX7_pairs_8 (by decide) ?_
    refine x_goto (tgt := 33) E dX7_pairs_10 (by decide) ?_
    exact x_iretS E hm dX7_pairs_33
set_option maxRecDepth 100000 in
set_option maxHeartbeats 4000000 in
theorem c_X7_piece (l : Launch) (D : va_G) (cs : vCs) (ad : Nat → Nat → Nat) {w : Wd} {a1 : Int32} {a2 : Int32} {r : Int32} {w' : Wd} (hm : X7_piece w a1 a2 = some (r, w')) : Mc l yX7_piece cX7_piece 3 (some .int) 6 135 D cs ad [.ref (ad 12 0), .int a1, .int a2] w (some (.int r)) w' := by
  refine Mc.of (by decide) (Nat.le_of_ble_eq_true rfl) ?_
  intro p e s m args below meth c E
  replace E : EV p m c cX7_piece 3 s args RX7 yX7_piece (some .int) meth D cs ad := E
  unfold X7_piece at hm
  refine x_aload_n E dX7_piece_0 rfl 0 rfl ?_
  obtain ⟨r_1, w_2, hc, hm⟩ := bI_inv hm
  refine x_callV (As := []) (rest := []) E my_X7_areCuts wG1093 (c_X7_areCuts l D cs ad hc) rfl rfl rfl ⟨Nat.le_of_ble_eq_true rfl, Nat.le_of_ble_eq_true rfl⟩ (Nat.le_of_ble_eq_true rfl) dX7_piece_1 ?_
  refine x_if_eq (tgt := 23) E dX7_piece_4 (by decide) hm (fun _ hm => ?_) (fun _ hm => ?_)
  · refine x_bipush (v := (iI (-101))) E dX7_piece_23 (by decide) ?_
    exact x_iretS E hm dX7_piece_25
  · refine x_iload_n E dX7_piece_7 rfl 1 rfl ?_
    refine x_iconst (v := (iI 0)) E dX7_piece_8 (by decide) ?_
    refine x_aload_n E dX7_piece_9 rfl 0 rfl ?_
    refine x_gf (v := .ref (ad 12 17)) E fr_X7_63 rfl rfl dX7_piece_10 ?_
    refine x_iconst (v := (iI 0)) E dX7_piece_13 (by decide) ?_
    refine x_iald E rfl rfl (by decide) dX7_piece_14 hm (fun x_3 hm => ?_)
    refine x_iconst (v := (iI 1)) E dX7_piece_15 (by decide) ?_
    refine x_isub E dX7_piece_16 ?_
    refine x_callS (As := [.int a1, .int (iI 0), .int (x_3 - (iI 1))]) (rest := []) E my_X7_within wG814 (c_X7_within l D cs ad rfl) rfl ⟨Nat.le_of_ble_eq_true rfl, Nat.le_of_ble_eq_true rfl⟩ (Nat.le_of_ble_eq_true rfl) dX7_piece_17 ?_
    refine x_if_ne (tgt := 26) E dX7_piece_20 (by decide) hm (fun _ hm => ?_) (fun _ hm => ?_)
    · refine x_iload_n E dX7_piece_26 rfl 2 rfl ?_
      refine x_iconst (v := (iI 0)) E dX7_piece_27 (by decide) ?_
      refine x_iconst (v := (iI 2)) E dX7_piece_28 (by decide) ?_
      refine x_callS (As := [.int a2, .int (iI 0), .int (iI 2)]) (rest := []) E my_X7_within wG814 (c_X7_within l D cs ad rfl) rfl ⟨Nat.le_of_ble_eq_true rfl, Nat.le_of_ble_eq_true rfl⟩ (Nat.le_of_ble_eq_true rfl) dX7_piece_29 ?_
      refine x_if_eq (tgt := 44) E dX7_piece_32 (by decide) hm (fun _ hm => ?_) (fun _ hm => ?_)
      · refine x_bipush (v := (iI (-102))) E dX7_piece_44 (by decide) ?_
        exact x_iretS E hm dX7_piece_46
      · refine x_aload_n E dX7_piece_35 rfl 0 rfl ?_
        refine x_iload_n E dX7_piece_36 rfl 1 rfl ?_
        refine x_iload_n E dX7_piece_37 rfl 2 rfl ?_
        obtain ⟨r_4, hc, hm⟩ := ob_inv hm
        refine x_callV (As := [.int a1, .int a2]) (rest := []) E my_X7_pieceNow wG1109 (c_X7_pieceNow l D cs ad hc) rfl rfl rfl ⟨Nat.le_of_ble_eq_true rfl, Nat.le_of_ble_eq_true rfl⟩ (Nat.le_of_ble_eq_true rfl) dX7_piece_38 ?_
        refine x_goto (tgt := 46) E dX7_piece_41 (by decide) ?_
        exact x_iretS E hm dX7_piece_46
    · refine x_bipush (v := (iI (-101))) E dX7_piece_23 (by decide) ?_
      exact x_iretS E hm dX7_piece_25
set_option maxRecDepth 100000 in
set_option maxHeartbeats 4000000 in
theorem c_X7_points (l : Launch) (D : va_G) (cs : vCs) (ad : Nat → Nat → Nat) {w : Wd} {a1 : Int32} {a2 : Int32} {r : Int32} (hm : X7_points w a1 a2 = some r) : Mc l yX7_points cX7_points 3 (some .int) 2 43 D cs ad [.ref (ad 12 0), .int a1, .int a2] w (some (.int r)) w := by
  refine Mc.of (by decide) (Nat.le_of_ble_eq_true rfl) ?_
  intro p e s m args below meth c E
  replace E : EV p m c cX7_points 3 s args RX7 yX7_points (some .int) meth D cs ad := E
  unfold X7_points at hm
  refine x_aload_n E dX7_points_0 rfl 0 rfl ?_
  refine x_iload_n E dX7_points_1 rfl 1 rfl ?_
  refine x_callV (As := [.int a1]) (rest := []) E my_X7_isCode wG864 (c_X7_isCode l D cs ad rfl) rfl rfl rfl ⟨Nat.le_of_ble_eq_true rfl, Nat.le_of_ble_eq_true rfl⟩ (Nat.le_of_ble_eq_true rfl) dX7_points_2 ?_
  refine x_if_ne (tgt := 13) E dX7_points_5 (by decide) hm (fun _ hm => ?_) (fun _ hm => ?_)
  · refine x_iload_n E dX7_points_13 rfl 2 rfl ?_
    refine x_iconst (v := (iI 0)) E dX7_points_14 (by decide) ?_
    refine x_iconst (v := (iI 3)) E dX7_points_15 (by decide) ?_
    refine x_callS (As := [.int a2, .int (iI 0), .int (iI 3)]) (rest := []) E my_X7_within wG814 (c_X7_within l D cs ad rfl) rfl ⟨Nat.le_of_ble_eq_true rfl, Nat.le_of_ble_eq_true rfl⟩ (Nat.le_of_ble_eq_true rfl) dX7_points_16 ?_
    refine x_if_eq (tgt := 35) E dX7_points_19 (by decide) hm (fun _ hm => ?_) (fun _ hm => ?_)
    · refine x_bipush (v := (iI (-102))) E dX7_points_35 (by decide) ?_
      exact x_iretP E hm dX7_points_37
    · refine x_aload_n E dX7_points_22 rfl 0 rfl ?_
      refine x_gf (v := .ref (ad 12 4)) E fr_X7_19 rfl rfl dX7_points_23 ?_
      refine x_iconst (v := (iI 4)) E dX7_points_26 (by decide) ?_
      refine x_iload_n E dX7_points_27 rfl 1 rfl ?_
      refine x_imul E dX7_points_28 ?_
      refine x_iload_n E dX7_points_29 rfl 2 rfl ?_
      refine x_iadd E dX7_points_30 ?_
      refine x_iald E rfl rfl (by decide) dX7_points_31 hm (fun x_1 hm => ?_)
      refine x_goto (tgt := 37) E dX7_points_32 (by decide) ?_
      exact x_iretP E hm dX7_points_37
  · refine x_bipush (v := (iI (-101))) E dX7_points_8 (by decide) ?_
    refine x_goto (tgt := 37) E dX7_points_10 (by decide) ?_
    exact x_iretP E hm dX7_points_37
set_option maxRecDepth 100000 in
set_option maxHeartbeats 4000000 in
theorem c_X7_rank (l : Launch) (D : va_G) (cs : vCs) (ad : Nat → Nat → Nat) {w : Wd} {a1 : Int32} {r : Int32} {w' : Wd} (hm : X7_rank w a1 = some (r, w')) : Mc l yX7_rank cX7_rank 3 (some .int) 9 205 D cs ad [.ref (ad 12 0), .int a1] w (some (.int r)) w' := by
  refine Mc.of (by decide) (Nat.le_of_ble_eq_true rfl) ?_
  intro p e s m args below meth c E
  replace E : EV p m c cX7_rank 3 s args RX7 yX7_rank (some .int) meth D cs ad := E
  have hL19 : ∀ (fuel : Nat) (b1 : Int32) (b2 : Int32) (w : Wd), X7_rank_L19 fuel b1 b2 w = some (r, w') → XV p l e { frames := 9, cells := 0, slots := 0, locals := 205 } s m args below meth c 3 D cs ad (MQ below (xQ D cs ad (some (.int r)) w') args s 0 0 (xF ad)) 19 [(0, .ref (ad 12 0)), (1, .int b1), (2, .int b2)] [] w := by
    intro fuel
    induction fuel with
    | zero => intro b1 b2 w hm; cases hm
    | succ fuel ih =>
      intro b1 b2 w hm
      rw [X7_rank_L19] at hm
      refine x_aload_n E dX7_rank_19 rfl 0 rfl ?_
      refine x_iload_n E dX7_rank_20 rfl 2 rfl ?_
      obtain ⟨r_1, w_2, hc, hm⟩ := bI_inv hm
      refine x_callV (As := [.int b2]) (rest := []) E my_X7_rankOf wG1005 (c_X7_rankOf l D cs ad hc) rfl rfl rfl ⟨Nat.le_of_ble_eq_true rfl, Nat.le_of_ble_eq_true rfl⟩ (Nat.le_of_ble_eq_true rfl) dX7_rank_21 ?_
      refine x_iload_n E dX7_rank_24 rfl 1 rfl ?_
      refine x_icmp_eq (tgt := 34) E dX7_rank_25 (by decide) hm (fun _ hm => ?_) (fun _ hm => ?_)
      · refine x_iload_n E dX7_rank_34 rfl 2 rfl ?_
        exact x_iretS E hm dX7_rank_35
      · refine x_iincB (lv' := fun x_3 => [(2, .int x_3), (0, .ref (ad 12 0)), (1, .int b1)]) (j := 2) E dX7_rank_28 rfl rfl (by decide) (fun _ => rfl) hm (fun x_3 hm => ?_)
        refine x_goto (tgt := 19) E dX7_rank_31 (by decide) ?_
        exact x_weak [1, 2, 0] rfl ((ih) b1 x_3 w_2 hm)
  unfold X7_rank at hm
  refine x_iload_n E dX7_rank_0 rfl 1 rfl ?_
  refine x_iconst (v := (iI 0)) E dX7_rank_1 (by decide) ?_
  refine x_aload_n E dX7_rank_2 rfl 0 rfl ?_
  refine x_gf (v := .int (rd w 12 0 0)) E fr_X7_110 rfl rfl dX7_rank_3 ?_
  refine x_iconst (v := (iI 1)) E dX7_rank_6 (by decide) ?_
  refine x_isub E dX7_rank_7 ?_
  refine x_callS (As := [.int a1, .int (iI 0), .int ((rd w 12 0 0) - (iI 1))]) (rest := []) E my_X7_within wG814 (c_X7_within l D cs ad rfl) rfl ⟨Nat.le_of_ble_eq_true rfl, Nat.le_of_ble_eq_true rfl⟩ (Nat.le_of_ble_eq_true rfl) dX7_rank_8 ?_
  refine x_if_ne (tgt := 17) E dX7_rank_11 (by decide) hm (fun _ hm => ?_) (fun _ hm => ?_)
  · refine x_iconst (v := (iI 0)) E dX7_rank_17 (by decide) ?_
    refine x_istore_n (lv' := [(2, .int (iI 0)), (0, .ref (ad 12 0)), (1, .int a1)]) E dX7_rank_18 rfl (by decide) rfl ?_
    exact x_weak [1, 2, 0] rfl ((hL19 1000) a1 (iI 0) w hm)
  · refine x_bipush (v := (iI (-101))) E dX7_rank_14 (by decide) ?_
    exact x_iretS E hm dX7_rank_16
set_option maxRecDepth 100000 in
set_option maxHeartbeats 4000000 in
theorem c_X7_rows (l : Launch) (D : va_G) (cs : vCs) (ad : Nat → Nat → Nat) {w : Wd} {a1 : Int32} {a2 : Int32} {r : Int32} {w' : Wd} (hm : X7_rows w a1 a2 = some (r, w')) : Mc l yX7_rows cX7_rows 3 (some .int) 5 116 D cs ad [.ref (ad 12 0), .int a1, .int a2] w (some (.int r)) w' := by
  refine Mc.of (by decide) (Nat.le_of_ble_eq_true rfl) ?_
  intro p e s m args below meth c E
  replace E : EV p m c cX7_rows 3 s args RX7 yX7_rows (some .int) meth D cs ad := E
  unfold X7_rows at hm
  refine x_aload_n E dX7_rows_0 rfl 0 rfl ?_
  refine x_iload_n E dX7_rows_1 rfl 1 rfl ?_
  refine x_callV (As := [.int a1]) (rest := []) E my_X7_isCode wG864 (c_X7_isCode l D cs ad rfl) rfl rfl rfl ⟨Nat.le_of_ble_eq_true rfl, Nat.le_of_ble_eq_true rfl⟩ (Nat.le_of_ble_eq_true rfl) dX7_rows_2 ?_
  refine x_if_ne (tgt := 13) E dX7_rows_5 (by decide) hm (fun _ hm => ?_) (fun _ hm => ?_)
  · refine x_iload_n E dX7_rows_13 rfl 2 rfl ?_
    refine x_iconst (v := (iI 0)) E dX7_rows_14 (by decide) ?_
    refine x_bipush (v := (iI 9)) E dX7_rows_15 (by decide) ?_
    refine x_callS (As := [.int a2, .int (iI 0), .int (iI 9)]) (rest := []) E my_X7_within wG814 (c_X7_within l D cs ad rfl) rfl ⟨Nat.le_of_ble_eq_true rfl, Nat.le_of_ble_eq_true rfl⟩ (Nat.le_of_ble_eq_true rfl) dX7_rows_17 ?_
    refine x_if_eq (tgt := 32) E dX7_rows_20 (by decide) hm (fun _ hm => ?_) (fun _ hm => ?_)
    · refine x_bipush (v := (iI (-102))) E dX7_rows_32 (by decide) ?_
      exact x_iretS E hm dX7_rows_34
    · refine x_aload_n E dX7_rows_23 rfl 0 rfl ?_
      refine x_iload_n E dX7_rows_24 rfl 1 rfl ?_
      refine x_iload_n E dX7_rows_25 rfl 2 rfl ?_
      obtain ⟨r_1, w_2, hc, hm⟩ := bI_inv hm
      refine x_callV (As := [.int a1, .int a2]) (rest := []) E my_X7_rowsNow wG1045 (c_X7_rowsNow l D cs ad hc) rfl rfl rfl ⟨Nat.le_of_ble_eq_true rfl, Nat.le_of_ble_eq_true rfl⟩ (Nat.le_of_ble_eq_true rfl) dX7_rows_26 ?_
      refine x_goto (tgt := 34) E dX7_rows_29 (by decide) ?_
      exact x_iretS E hm dX7_rows_34
  · refine x_bipush (v := (iI (-101))) E dX7_rows_8 (by decide) ?_
    refine x_goto (tgt := 34) E dX7_rows_10 (by decide) ?_
    exact x_iretS E hm dX7_rows_34
set_option maxRecDepth 100000 in
set_option maxHeartbeats 4000000 in
theorem c_X7_tellsNow (l : Launch) (D : va_G) (cs : vCs) (ad : Nat → Nat → Nat) {w : Wd} {a1 : Int32} {a2 : Int32} {a3 : Int32} {r : Int32} {w' : Wd} (hm : X7_tellsNow w a1 a2 a3 = some (r, w')) : Mc l yX7_tellsNow cX7_tellsNow 8 (some .int) 7 170 D cs ad [.ref (ad 12 0), .int a1, .int a2, .int a3] w (some (.int r)) w' := by
  refine Mc.of (by decide) (Nat.le_of_ble_eq_true rfl) ?_
  intro p e s m args below meth c E
  replace E : EV p m c cX7_tellsNow 8 s args RX7 yX7_tellsNow (some .int) meth D cs ad := E
  have hL32 : ∀ (fuel : Nat) (b1 : Int32) (b2 : Int32) (b3 : Int32) (b4 : Int32) (b5 : Int32) (b6 : Int32) (b7 : Int32) (w : Wd), X7_tellsNow_L32 fuel b1 b2 b3 b4 b5 b6 b7 w = some (r, w') → XV p l e { frames := 7, cells := 0, slots := 0, locals := 170 } s m args below meth c 8 D cs ad (MQ below (xQ D cs ad (some (.int r)) w') args s 0 0 (xF ad)) 32 [(0, .ref (ad 12 0)), (1, .int b1), (2, .int b2), (3, .int b3), (4, .int b4), (5, .int b5), (6, .int b6), (7, .int b7)] [] w := by
    intro fuel
    induction fuel with
    | zero => intro b1 b2 b3 b4 b5 b6 b7 w hm; cases hm
    | succ fuel ih =>
      intro b1 b2 b3 b4 b5 b6 b7 w hm
      rw [X7_tellsNow_L32] at hm
      refine x_iload E dX7_tellsNow_32 7 rfl ?_
      refine x_iload_n E dX7_tellsNow_34 rfl 3 rfl ?_
      refine x_icmp_gt (tgt := 78) E dX7_tellsNow_35 (by decide) hm (fun _ hm => ?_) (fun _ hm => ?_)
      · refine x_iload E dX7_tellsNow_78 6 rfl ?_
        exact x_iretS E hm dX7_tellsNow_80
      · refine x_aload_n E dX7_tellsNow_38 rfl 0 rfl ?_
        refine x_iload_n E dX7_tellsNow_39 rfl 1 rfl ?_
        refine x_iload_n E dX7_tellsNow_40 rfl 2 rfl ?_
        refine x_iload E dX7_tellsNow_41 5 rfl ?_
        refine x_aload_n E dX7_tellsNow_43 rfl 0 rfl ?_
        refine x_gf (v := .ref (ad 12 15)) E fr_X7_57 rfl rfl dX7_tellsNow_44 ?_
        refine x_iload E dX7_tellsNow_47 4 rfl ?_
        refine x_iconst (v := (iI 1)) E dX7_tellsNow_49 (by decide) ?_
        refine x_isub E dX7_tellsNow_50 ?_
        refine x_iload E dX7_tellsNow_51 7 rfl ?_
        refine x_isub E dX7_tellsNow_53 ?_
        refine x_iald E rfl rfl (by decide) dX7_tellsNow_54 hm (fun x_3 hm => ?_)
        obtain ⟨r_4, w_5, hc, hm⟩ := bI_inv hm
        refine x_callV (As := [.int b1, .int b2, .int b5, .int x_3]) (rest := []) E my_X7_leastTo wG1085 (c_X7_leastTo l D cs ad hc) rfl rfl rfl ⟨Nat.le_of_ble_eq_true rfl, Nat.le_of_ble_eq_true rfl⟩ (Nat.le_of_ble_eq_true rfl) dX7_tellsNow_55 ?_
        refine x_istore (lv' := [(6, .int r_4), (0, .ref (ad 12 0)), (1, .int b1), (2, .int b2), (3, .int b3), (4, .int b4), (5, .int b5), (7, .int b7)]) E dX7_tellsNow_58 (by decide) rfl ?_
        refine x_aload_n E dX7_tellsNow_60 rfl 1 rfl ?_
        refine x_iload_n E dX7_tellsNow_61 rfl 2 rfl ?_
        refine x_iload_n E dX7_tellsNow_62 rfl 3 rfl ?_
        refine x_iload E dX7_tellsNow_63 6 rfl ?_
        refine x_iload E dX7_tellsNow_65 0 rfl ?_
        obtain ⟨r_6, w_7, hc, hm⟩ := bI_inv hm
        refine x_callV (As := [.int b1, .int b2, .int b5, .int r_4]) (rest := []) E my_X7_bothBehind wG1073 (c_X7_bothBehind l D cs ad hc) rfl rfl rfl ⟨Nat.le_of_ble_eq_true rfl, Nat.le_of_ble_eq_true rfl⟩ (Nat.le_of_ble_eq_true rfl) dX7_tellsNow_67 ?_
        refine x_istore (lv' := [(5, .int r_6), (6, .int r_4), (0, .ref (ad 12 0)), (1, .int b1), (2, .int b2), (3, .int b3), (4, .int b4), (7, .int b7)]) E dX7_tellsNow_70 (by decide) rfl ?_
        refine x_iincB (lv' := fun x_8 => [(7, .int x_8), (5, .int r_6), (6, .int r_4), (0, .ref (ad 12 0)), (1, .int b1), (2, .int b2), (3, .int b3), (4, .int b4)]) (j := 7) E dX7_tellsNow_72 rfl rfl (by decide) (fun _ => rfl) hm (fun x_8 hm => ?_)
        refine x_goto (tgt := 32) E dX7_tellsNow_75 (by decide) ?_
        exact x_weak [3, 4, 5, 6, 7, 1, 2, 0] rfl ((ih) b1 b2 b3 b4 r_6 r_4 x_8 w_7 hm)
  unfold X7_tellsNow at hm
  refine x_aload_n E dX7_tellsNow_0 rfl 0 rfl ?_
  refine x_iload_n E dX7_tellsNow_1 rfl 1 rfl ?_
  refine x_iload_n E dX7_tellsNow_2 rfl 2 rfl ?_
  obtain ⟨r_1, w_2, hc, hm⟩ := bI_inv hm
  refine x_callV (As := [.int a1, .int a2]) (rest := []) E my_X7_apartNow wG1057 (c_X7_apartNow l D cs ad hc) rfl rfl rfl ⟨Nat.le_of_ble_eq_true rfl, Nat.le_of_ble_eq_true rfl⟩ (Nat.le_of_ble_eq_true rfl) dX7_tellsNow_3 ?_
  refine x_istore (lv' := [(4, .int r_1), (0, .ref (ad 12 0)), (1, .int a1), (2, .int a2), (3, .int a3)]) E dX7_tellsNow_6 (by decide) rfl ?_
  refine x_iload_n E dX7_tellsNow_8 rfl 4 rfl ?_
  refine x_iconst (v := (iI 0)) E dX7_tellsNow_9 (by decide) ?_
  refine x_iload E dX7_tellsNow_10 0 rfl ?_
  refine x_iconst (v := (iI 1)) E dX7_tellsNow_12 (by decide) ?_
  refine x_isub E dX7_tellsNow_13 ?_
  refine x_callS (As := [.int a3, .int (iI 0), .int (r_1 - (iI 1))]) (rest := []) E my_X7_within wG814 (c_X7_within l D cs ad rfl) rfl ⟨Nat.le_of_ble_eq_true rfl, Nat.le_of_ble_eq_true rfl⟩ (Nat.le_of_ble_eq_true rfl) dX7_tellsNow_14 ?_
  refine x_if_ne (tgt := 23) E dX7_tellsNow_17 (by decide) hm (fun _ hm => ?_) (fun _ hm => ?_)
  · refine x_iconst (v := (iI 0)) E dX7_tellsNow_23 (by decide) ?_
    refine x_istore (lv' := [(5, .int (iI 0)), (4, .int r_1), (0, .ref (ad 12 0)), (1, .int a1), (2, .int a2), (3, .int a3)]) E dX7_tellsNow_24 (by decide) rfl ?_
    refine x_iconst (v := (iI 0)) E dX7_tellsNow_26 (by decide) ?_
    refine x_istore (lv' := [(6, .int (iI 0)), (5, .int (iI 0)), (4, .int r_1), (0, .ref (ad 12 0)), (1, .int a1), (2, .int a2), (3, .int a3)]) E dX7_tellsNow_27 (by decide) rfl ?_
    refine x_iconst (v := (iI 0)) E dX7_tellsNow_29 (by decide) ?_
    refine x_istore (lv' := [(7, .int (iI 0)), (6, .int (iI 0)), (5, .int (iI 0)), (4, .int r_1), (0, .ref (ad 12 0)), (1, .int a1), (2, .int a2), (3, .int a3)]) E dX7_tellsNow_30 (by decide) rfl ?_
    exact x_weak [4, 5, 6, 7, 3, 2, 1, 0] rfl ((hL32 1000) a1 a2 a3 r_1 (iI 0) (iI 0) (iI 0) w_2 hm)
  · refine x_bipush (v := (iI (-101))) E dX7_tellsNow_20 (by decide) ?_
    exact x_iretS E hm dX7_tellsNow_22
set_option maxRecDepth 100000 in
set_option maxHeartbeats 4000000 in
theorem c_X7_tells (l : Launch) (D : va_G) (cs : vCs) (ad : Nat → Nat → Nat) {w : Wd} {a1 : Int32} {a2 : Int32} {a3 : Int32} {r : Int32} {w' : Wd} (hm : X7_tells w a1 a2 a3 = some (r, w')) : Mc l yX7_tells cX7_tells 4 (some .int) 8 197 D cs ad [.ref (ad 12 0), .int a1, .int a2, .int a3] w (some (.int r)) w' := by
  refine Mc.of (by decide) (Nat.le_of_ble_eq_true rfl) ?_
  intro p e s m args below meth c E
  replace E : EV p m c cX7_tells 4 s args RX7 yX7_tells (some .int) meth D cs ad := E
  unfold X7_tells at hm
  refine x_aload_n E dX7_tells_0 rfl 0 rfl ?_
  refine x_iload_n E dX7_tells_1 rfl 1 rfl ?_
  refine x_callV (As := [.int a1]) (rest := []) E my_X7_isCode wG864 (c_X7_isCode l D cs ad rfl) rfl rfl rfl ⟨Nat.le_of_ble_eq_true rfl, Nat.le_of_ble_eq_true rfl⟩ (Nat.le_of_ble_eq_true rfl) dX7_tells_2 ?_
  refine x_if_eq (tgt := 26) E dX7_tells_5 (by decide) hm (fun _ hm => ?_) (fun _ hm => ?_)
  · refine x_bipush (v := (iI (-101))) E dX7_tells_26 (by decide) ?_
    exact x_iretS E hm dX7_tells_28
  · refine x_aload_n E dX7_tells_8 rfl 0 rfl ?_
    refine x_iload_n E dX7_tells_9 rfl 2 rfl ?_
    refine x_callV (As := [.int a2]) (rest := []) E my_X7_isCode wG864 (c_X7_isCode l D cs ad rfl) rfl rfl rfl ⟨Nat.le_of_ble_eq_true rfl, Nat.le_of_ble_eq_true rfl⟩ (Nat.le_of_ble_eq_true rfl) dX7_tells_10 ?_
    refine x_if_eq (tgt := 26) E dX7_tells_13 (by decide) hm (fun _ hm => ?_) (fun _ hm => ?_)
    · refine x_bipush (v := (iI (-101))) E dX7_tells_26 (by decide) ?_
      exact x_iretS E hm dX7_tells_28
    · refine x_aload_n E dX7_tells_16 rfl 0 rfl ?_
      refine x_iload_n E dX7_tells_17 rfl 1 rfl ?_
      refine x_iload_n E dX7_tells_18 rfl 2 rfl ?_
      refine x_iload_n E dX7_tells_19 rfl 3 rfl ?_
      obtain ⟨r_1, w_2, hc, hm⟩ := bI_inv hm
      refine x_callV (As := [.int a1, .int a2, .int a3]) (rest := []) E my_X7_tellsNow wG1081 (c_X7_tellsNow l D cs ad hc) rfl rfl rfl ⟨Nat.le_of_ble_eq_true rfl, Nat.le_of_ble_eq_true rfl⟩ (Nat.le_of_ble_eq_true rfl) dX7_tells_20 ?_
      refine x_goto (tgt := 28) E dX7_tells_23 (by decide) ?_
      exact x_iretS E hm dX7_tells_28
set_option maxRecDepth 100000 in
set_option maxHeartbeats 4000000 in
theorem c_X7_unit (l : Launch) (D : va_G) (cs : vCs) (ad : Nat → Nat → Nat) {w : Wd} {a1 : Int32} {r : Int32} (hm : X7_unit w a1 = some r) : Mc l yX7_unit cX7_unit 2 (some .int) 1 22 D cs ad [.ref (ad 12 0), .int a1] w (some (.int r)) w := by
  refine Mc.of (by decide) (Nat.le_of_ble_eq_true rfl) ?_
  intro p e s m args below meth c E
  replace E : EV p m c cX7_unit 2 s args RX7 yX7_unit (some .int) meth D cs ad := E
  unfold X7_unit at hm
  refine x_iload_n E dX7_unit_0 rfl 1 rfl ?_
  refine x_iconst (v := (iI 0)) E dX7_unit_1 (by decide) ?_
  refine x_aload_n E dX7_unit_2 rfl 0 rfl ?_
  refine x_gf (v := .int (rd w 12 0 8)) E fr_X7_133 rfl rfl dX7_unit_3 ?_
  refine x_iconst (v := (iI 1)) E dX7_unit_6 (by decide) ?_
  refine x_isub E dX7_unit_7 ?_
  refine x_callS (As := [.int a1, .int (iI 0), .int ((rd w 12 0 8) - (iI 1))]) (rest := []) E my_X7_within wG814 (c_X7_within l D cs ad rfl) rfl ⟨Nat.le_of_ble_eq_true rfl, Nat.le_of_ble_eq_true rfl⟩ (Nat.le_of_ble_eq_true rfl) dX7_unit_8 ?_
  refine x_if_eq (tgt := 23) E dX7_unit_11 (by decide) hm (fun _ hm => ?_) (fun _ hm => ?_)
  · refine x_bipush (v := (iI (-101))) E dX7_unit_23 (by decide) ?_
    exact x_iretP E hm dX7_unit_25
  · refine x_aload_n E dX7_unit_14 rfl 0 rfl ?_
    refine x_gf (v := .ref (ad 12 5)) E fr_X7_26 rfl rfl dX7_unit_15 ?_
    refine x_iload_n E dX7_unit_18 rfl 1 rfl ?_
    refine x_iald E rfl rfl (by decide) dX7_unit_19 hm (fun x_1 hm => ?_)
    refine x_goto (tgt := 25) E dX7_unit_20 (by decide) ?_
    exact x_iretP E hm dX7_unit_25

set_option maxRecDepth 100000 in
set_option maxHeartbeats 4000000 in
theorem c_X7_goBack (l : Launch) (D : va_G) (cs : vCs) (ad : Nat → Nat → Nat) {w : Wd} {a1 : Int32} {a2 : Int32} {w' : Wd} (hm : X7_goBack w a1 a2 = some w') : Mc l yX7_goBack cX7_goBack 7 none 5 121 D cs ad [.ref (ad 12 0), .int a1, .int a2] w none w' := by
  refine Mc.of (by decide) (Nat.le_of_ble_eq_true rfl) ?_
  intro p e s m args below meth c E
  replace E : EV p m c cX7_goBack 7 s args RX7 yX7_goBack none meth D cs ad := E
  have hL61 : ∀ (fuel : Nat) (k118 : Int32 → Int32 → Int32 → Wd → Option Wd) (hk118 : ∀ (b1 : Int32) (b2 : Int32) (b3 : Int32) (w : Wd), k118 b1 b2 b3 w = some w' → XV p l e { frames := 5, cells := 0, slots := 0, locals := 121 } s m args below meth c 7 D cs ad (MQ below (xQ D cs ad none w') args s 0 0 (xF ad)) 118 [(0, .ref (ad 12 0)), (1, .int b1), (2, .int b2), (3, .int b3)] [] w) (b1 : Int32) (b2 : Int32) (b3 : Int32) (b4 : Int32) (b5 : Int32) (w : Wd), X7_goBack_L61 fuel k118 b1 b2 b3 b4 b5 w = some w' → XV p l e { frames := 5, cells := 0, slots := 0, locals := 121 } s m args below meth c 7 D cs ad (MQ below (xQ D cs ad none w') args s 0 0 (xF ad)) 61 [(0, .ref (ad 12 0)), (1, .int b1), (2, .int b2), (3, .int b3), (4, .int b4), (5, .int b5)] [] w := by
    intro fuel
    induction fuel with
    | zero => intro k118 hk118 b1 b2 b3 b4 b5 w hm; cases hm
    | succ fuel ih =>
      intro k118 hk118 b1 b2 b3 b4 b5 w hm
      rw [X7_goBack_L61] at hm
      refine x_iload E dX7_goBack_61 5 rfl ?_
      refine x_bipush (v := (iI 8)) E dX7_goBack_63 (by decide) ?_
      refine x_icmp_ge (tgt := 118) E dX7_goBack_65 (by decide) hm (fun _ hm => ?_) (fun _ hm => ?_)
      · exact x_weak [0, 1, 2, 3] rfl (hk118 b1 b2 b3 w hm)
      · refine x_iload E dX7_goBack_68 4 rfl ?_
        refine x_if_eq (tgt := 118) E dX7_goBack_70 (by decide) hm (fun _ hm => ?_) (fun _ hm => ?_)
        · exact x_weak [0, 1, 2, 3] rfl (hk118 b1 b2 b3 w hm)
        · refine x_aload_n E dX7_goBack_73 rfl 0 rfl ?_
          refine x_iload_n E dX7_goBack_74 rfl 1 rfl ?_
          refine x_iload_n E dX7_goBack_75 rfl 2 rfl ?_
          refine x_iload_n E dX7_goBack_76 rfl 3 rfl ?_
          refine x_iload E dX7_goBack_77 5 rfl ?_
          obtain ⟨r_4, w_5, hc, hm⟩ := bI_inv hm
          refine x_callV (As := [.int b1, .int b2, .int b3, .int b5]) (rest := []) E my_X7_moreBy wG986 (c_X7_moreBy l D cs ad hc) rfl rfl rfl ⟨Nat.le_of_ble_eq_true rfl, Nat.le_of_ble_eq_true rfl⟩ (Nat.le_of_ble_eq_true rfl) dX7_goBack_79 ?_
          refine x_istore (lv' := [(6, .int r_4), (0, .ref (ad 12 0)), (1, .int b1), (2, .int b2), (3, .int b3), (4, .int b4), (5, .int b5)]) E dX7_goBack_82 (by decide) rfl ?_
          refine x_aload_n E dX7_goBack_84 rfl 1 rfl ?_
          refine x_gf (v := .ref (ad 12 9)) E fr_X7_38 rfl rfl dX7_goBack_85 ?_
          refine x_iload_n E dX7_goBack_88 rfl 4 rfl ?_
          refine x_iload E dX7_goBack_89 0 rfl ?_
          refine x_aload_n E dX7_goBack_91 rfl 1 rfl ?_
          refine x_gf (v := .ref (ad 12 9)) E fr_X7_38 rfl rfl dX7_goBack_92 ?_
          refine x_iload_n E dX7_goBack_95 rfl 4 rfl ?_
          refine x_iald E rfl rfl (by decide) dX7_goBack_96 hm (fun x_6 hm => ?_)
          refine x_icmp_le (tgt := 105) E dX7_goBack_97 (by decide) hm (fun _ hm => ?_) (fun _ hm => ?_)
          · refine x_aload_n E dX7_goBack_105 rfl 1 rfl ?_
            refine x_gf (v := .ref (ad 12 9)) E fr_X7_38 rfl rfl dX7_goBack_106 ?_
            refine x_iload_n E dX7_goBack_109 rfl 4 rfl ?_
            refine x_iald E rfl rfl (by decide) dX7_goBack_110 hm (fun x_7 hm => ?_)
            refine x_iast E rfl rfl (by decide) dX7_goBack_111 hm (fun w_8 hm => ?_)
            refine x_iincB (lv' := fun x_9 => [(5, .int x_9), (6, .int r_4), (0, .ref (ad 12 0)), (1, .int b1), (2, .int b2), (3, .int b3), (4, .int b4)]) (j := 6) E dX7_goBack_112 rfl rfl (by decide) (fun _ => rfl) hm (fun x_9 hm => ?_)
            refine x_goto (tgt := 61) E dX7_goBack_115 (by decide) ?_
            exact x_weak [2, 3, 4, 5, 6, 0] rfl ((ih _ hk118) b1 b2 b3 b4 x_9 w_8 hm)
          · refine x_iload E dX7_goBack_100 0 rfl ?_
            refine x_goto (tgt := 111) E dX7_goBack_102 (by decide) ?_
            refine x_iast E rfl rfl (by decide) dX7_goBack_111 hm (fun w_10 hm => ?_)
            refine x_iincB (lv' := fun x_11 => [(5, .int x_11), (6, .int r_4), (0, .ref (ad 12 0)), (1, .int b1), (2, .int b2), (3, .int b3), (4, .int b4)]) (j := 6) E dX7_goBack_112 rfl rfl (by decide) (fun _ => rfl) hm (fun x_11 hm => ?_)
            refine x_goto (tgt := 61) E dX7_goBack_115 (by decide) ?_
            exact x_weak [2, 3, 4, 5, 6, 0] rfl ((ih _ hk118) b1 b2 b3 b4 x_11 w_10 hm)
  have hL118 : ∀ (k2 : Int32 → Int32 → Int32 → Wd → Option Wd) (hk2 : ∀ (b1 : Int32) (b2 : Int32) (b3 : Int32) (w : Wd), k2 b1 b2 b3 w = some w' → XV p l e { frames := 5, cells := 0, slots := 0, locals := 121 } s m args below meth c 7 D cs ad (MQ below (xQ D cs ad none w') args s 0 0 (xF ad)) 2 [(0, .ref (ad 12 0)), (1, .int b1), (2, .int b2), (3, .int b3)] [] w) (b1 : Int32) (b2 : Int32) (b3 : Int32) (w : Wd), X7_goBack_L118 k2 b1 b2 b3 w = some w' → XV p l e { frames := 5, cells := 0, slots := 0, locals := 121 } s m args below meth c 7 D cs ad (MQ below (xQ D cs ad none w') args s 0 0 (xF ad)) 118 [(0, .ref (ad 12 0)), (1, .int b1), (2, .int b2), (3, .int b3)] [] w := by
    intro k2 hk2 b1 b2 b3 w hm
    unfold X7_goBack_L118 at hm
    refine x_iincB (lv' := fun x_12 => [(3, .int x_12), (0, .ref (ad 12 0)), (1, .int b1), (2, .int b2)]) (j := 3) E dX7_goBack_118 rfl rfl (by decide) (fun _ => rfl) hm (fun x_12 hm => ?_)
    refine x_goto (tgt := 2) E dX7_goBack_121 (by decide) ?_
    exact x_weak [1, 2, 3, 0] rfl (hk2 b1 b2 x_12 w hm)
  have hL2 : ∀ (fuel : Nat) (k124 : Wd → Option Wd) (hk124 : ∀ (w : Wd), k124 w = some w' → XV p l e { frames := 5, cells := 0, slots := 0, locals := 121 } s m args below meth c 7 D cs ad (MQ below (xQ D cs ad none w') args s 0 0 (xF ad)) 124 [(0, .ref (ad 12 0))] [] w) (b1 : Int32) (b2 : Int32) (b3 : Int32) (w : Wd), X7_goBack_L2 fuel k124 b1 b2 b3 w = some w' → XV p l e { frames := 5, cells := 0, slots := 0, locals := 121 } s m args below meth c 7 D cs ad (MQ below (xQ D cs ad none w') args s 0 0 (xF ad)) 2 [(0, .ref (ad 12 0)), (1, .int b1), (2, .int b2), (3, .int b3)] [] w := by
    intro fuel
    induction fuel with
    | zero => intro k124 hk124 b1 b2 b3 w hm; cases hm
    | succ fuel ih =>
      intro k124 hk124 b1 b2 b3 w hm
      rw [X7_goBack_L2] at hm
      refine x_iload_n E dX7_goBack_2 rfl 3 rfl ?_
      refine x_sipush (v := (iI 225)) E dX7_goBack_3 (by decide) ?_
      refine x_icmp_ge (tgt := 124) E dX7_goBack_6 (by decide) hm (fun _ hm => ?_) (fun _ hm => ?_)
      · exact x_weak [0] rfl (hk124 w hm)
      · refine x_aload_n E dX7_goBack_9 rfl 0 rfl ?_
        refine x_gf (v := .ref (ad 12 9)) E fr_X7_38 rfl rfl dX7_goBack_10 ?_
        refine x_iload_n E dX7_goBack_13 rfl 3 rfl ?_
        refine x_ldc (v := (iI (-100000))) E wG981 dX7_goBack_14 ?_
        refine x_iast E rfl rfl (by decide) dX7_goBack_16 hm (fun w_1 hm => ?_)
        refine x_aload_n E dX7_goBack_17 rfl 0 rfl ?_
        refine x_gf (v := .ref (ad 12 1)) E fr_X7_7 rfl rfl dX7_goBack_18 ?_
        refine x_iload_n E dX7_goBack_21 rfl 1 rfl ?_
        refine x_iald E rfl rfl (by decide) dX7_goBack_22 hm (fun x_2 hm => ?_)
        refine x_iload_n E dX7_goBack_23 rfl 3 rfl ?_
        refine x_bipush (v := (iI 45)) E dX7_goBack_24 (by decide) ?_
        refine x_idiv E dX7_goBack_26 (by decide) ?_
        refine x_callS (As := [.int x_2, .int (b3 / (iI 45))]) (rest := []) E my_X7_isState wG970 (c_X7_isState l D cs ad rfl) rfl ⟨Nat.le_of_ble_eq_true rfl, Nat.le_of_ble_eq_true rfl⟩ (Nat.le_of_ble_eq_true rfl) dX7_goBack_27 ?_
        refine x_if_eq (tgt := 55) E dX7_goBack_30 (by decide) hm (fun _ hm => ?_) (fun _ hm => ?_)
        · refine x_iconst (v := (iI 0)) E dX7_goBack_55 (by decide) ?_
          refine x_istore (lv' := [(4, .int (iI 0)), (0, .ref (ad 12 0)), (1, .int b1), (2, .int b2), (3, .int b3)]) E dX7_goBack_56 (by decide) rfl ?_
          refine x_iconst (v := (iI 0)) E dX7_goBack_58 (by decide) ?_
          refine x_istore (lv' := [(5, .int (iI 0)), (4, .int (iI 0)), (0, .ref (ad 12 0)), (1, .int b1), (2, .int b2), (3, .int b3)]) E dX7_goBack_59 (by decide) rfl ?_
          exact x_weak [2, 3, 4, 5, 1, 0] rfl ((hL61 1000 _ (hL118 _ (ih _ hk124))) b1 b2 b3 (iI 0) (iI 0) w_1 hm)
        · refine x_aload_n E dX7_goBack_33 rfl 0 rfl ?_
          refine x_gf (v := .ref (ad 12 1)) E fr_X7_7 rfl rfl dX7_goBack_34 ?_
          refine x_iload_n E dX7_goBack_37 rfl 2 rfl ?_
          refine x_iald E rfl rfl (by decide) dX7_goBack_38 hm (fun x_3 hm => ?_)
          refine x_iload_n E dX7_goBack_39 rfl 3 rfl ?_
          refine x_bipush (v := (iI 15)) E dX7_goBack_40 (by decide) ?_
          refine x_irem E dX7_goBack_42 (by decide) ?_
          refine x_iconst (v := (iI 3)) E dX7_goBack_43 (by decide) ?_
          refine x_idiv E dX7_goBack_44 (by decide) ?_
          refine x_callS (As := [.int x_3, .int ((irm b3 (iI 15)) / (iI 3))]) (rest := []) E my_X7_isState wG970 (c_X7_isState l D cs ad rfl) rfl ⟨Nat.le_of_ble_eq_true rfl, Nat.le_of_ble_eq_true rfl⟩ (Nat.le_of_ble_eq_true rfl) dX7_goBack_45 ?_
          refine x_if_eq (tgt := 55) E dX7_goBack_48 (by decide) hm (fun _ hm => ?_) (fun _ hm => ?_)
          · refine x_iconst (v := (iI 0)) E dX7_goBack_55 (by decide) ?_
            refine x_istore (lv' := [(4, .int (iI 0)), (0, .ref (ad 12 0)), (1, .int b1), (2, .int b2), (3, .int b3)]) E dX7_goBack_56 (by decide) rfl ?_
            refine x_iconst (v := (iI 0)) E dX7_goBack_58 (by decide) ?_
            refine x_istore (lv' := [(5, .int (iI 0)), (4, .int (iI 0)), (0, .ref (ad 12 0)), (1, .int b1), (2, .int b2), (3, .int b3)]) E dX7_goBack_59 (by decide) rfl ?_
            exact x_weak [2, 3, 4, 5, 1, 0] rfl ((hL61 1000 _ (hL118 _ (ih _ hk124))) b1 b2 b3 (iI 0) (iI 0) w_1 hm)
          · refine x_iconst (v := (iI 1)) E dX7_goBack_51 (by decide) ?_
            refine x_goto (tgt := 56) E dX7_goBack_52 (by decide) ?_
            refine x_istore (lv' := [(4, .int (iI 1)), (0, .ref (ad 12 0)), (1, .int b1), (2, .int b2), (3, .int b3)]) E dX7_goBack_56 (by decide) rfl ?_
            refine x_iconst (v := (iI 0)) E dX7_goBack_58 (by decide) ?_
            refine x_istore (lv' := [(5, .int (iI 0)), (4, .int (iI 1)), (0, .ref (ad 12 0)), (1, .int b1), (2, .int b2), (3, .int b3)]) E dX7_goBack_59 (by decide) rfl ?_
            exact x_weak [2, 3, 4, 5, 1, 0] rfl ((hL61 1000 _ (hL118 _ (ih _ hk124))) b1 b2 b3 (iI 1) (iI 0) w_1 hm)
  have hL126 : ∀ (fuel : Nat) (b3 : Int32) (w : Wd), X7_goBack_L126 fuel b3 w = some w' → XV p l e { frames := 5, cells := 0, slots := 0, locals := 121 } s m args below meth c 7 D cs ad (MQ below (xQ D cs ad none w') args s 0 0 (xF ad)) 126 [(0, .ref (ad 12 0)), (3, .int b3)] [] w := by
    intro fuel
    induction fuel with
    | zero => intro b3 w hm; cases hm
    | succ fuel ih =>
      intro b3 w hm
      rw [X7_goBack_L126] at hm
      refine x_iload_n E dX7_goBack_126 rfl 1 rfl ?_
      refine x_sipush (v := (iI 225)) E dX7_goBack_127 (by decide) ?_
      refine x_icmp_ge (tgt := 151) E dX7_goBack_130 (by decide) hm (fun _ hm => ?_) (fun _ hm => ?_)
      · exact x_vretS E hm dX7_goBack_151
      · refine x_aload_n E dX7_goBack_133 rfl 0 rfl ?_
        refine x_gf (v := .ref (ad 12 8)) E fr_X7_35 rfl rfl dX7_goBack_134 ?_
        refine x_iload_n E dX7_goBack_137 rfl 1 rfl ?_
        refine x_aload_n E dX7_goBack_138 rfl 0 rfl ?_
        refine x_gf (v := .ref (ad 12 9)) E fr_X7_38 rfl rfl dX7_goBack_139 ?_
        refine x_iload_n E dX7_goBack_142 rfl 1 rfl ?_
        refine x_iald E rfl rfl (by decide) dX7_goBack_143 hm (fun x_13 hm => ?_)
        refine x_iast E rfl rfl (by decide) dX7_goBack_144 hm (fun w_14 hm => ?_)
        refine x_iincB (lv' := fun x_15 => [(3, .int x_15), (0, .ref (ad 12 0))]) (j := 1) E dX7_goBack_145 rfl rfl (by decide) (fun _ => rfl) hm (fun x_15 hm => ?_)
        refine x_goto (tgt := 126) E dX7_goBack_148 (by decide) ?_
        exact x_weak [1, 0] rfl ((ih) x_15 w_14 hm)
  have hL124 : ∀ (w : Wd), X7_goBack_L124 w = some w' → XV p l e { frames := 5, cells := 0, slots := 0, locals := 121 } s m args below meth c 7 D cs ad (MQ below (xQ D cs ad none w') args s 0 0 (xF ad)) 124 [(0, .ref (ad 12 0))] [] w := by
    intro w hm
    unfold X7_goBack_L124 at hm
    refine x_iconst (v := (iI 0)) E dX7_goBack_124 (by decide) ?_
    refine x_istore_n (lv' := [(3, .int (iI 0)), (0, .ref (ad 12 0))]) E dX7_goBack_125 rfl (by decide) rfl ?_
    exact x_weak [1, 0] rfl ((hL126 1000) (iI 0) w hm)
  unfold X7_goBack at hm
  refine x_iconst (v := (iI 0)) E dX7_goBack_0 (by decide) ?_
  refine x_istore_n (lv' := [(3, .int (iI 0)), (0, .ref (ad 12 0)), (1, .int a1), (2, .int a2)]) E dX7_goBack_1 rfl (by decide) rfl ?_
  exact x_weak [1, 2, 3, 0] rfl ((hL2 1000 _ (hL124)) a1 a2 (iI 0) w hm)
set_option maxRecDepth 100000 in
set_option maxHeartbeats 4000000 in
theorem c_X7_canLose (l : Launch) (D : va_G) (cs : vCs) (ad : Nat → Nat → Nat) {w : Wd} {a1 : Int32} {a2 : Int32} {a3 : Int32} {r : Int32} {w' : Wd} (hm : X7_canLose w a1 a2 a3 = some (r, w')) : Mc l yX7_canLose cX7_canLose 8 (some .boolean) 5 115 D cs ad [.ref (ad 12 0), .int a1, .int a2, .int a3] w (some (.int r)) w' := by
  refine Mc.of (by decide) (Nat.le_of_ble_eq_true rfl) ?_
  intro p e s m args below meth c E
  replace E : EV p m c cX7_canLose 8 s args RX7 yX7_canLose (some .boolean) meth D cs ad := E
  unfold X7_canLose at hm
  refine x_aload_n E dX7_canLose_0 rfl 0 rfl ?_
  refine x_iload_n E dX7_canLose_1 rfl 1 rfl ?_
  refine x_iload_n E dX7_canLose_2 rfl 3 rfl ?_
  obtain ⟨w_1, hc, hm⟩ := ob_inv hm
  refine x_callV (As := [.int a1, .int a3]) (rest := []) E my_X7_goAlong wG914 (c_X7_goAlong l D cs ad hc) rfl rfl rfl ⟨Nat.le_of_ble_eq_true rfl, Nat.le_of_ble_eq_true rfl⟩ (Nat.le_of_ble_eq_true rfl) dX7_canLose_3 ?_
  refine x_aload_n E dX7_canLose_6 rfl 0 rfl ?_
  refine x_gf (v := .int (rd w_1 12 0 14)) E fr_X7_155 rfl rfl dX7_canLose_7 ?_
  refine x_iconst (v := (iI (-1))) E dX7_canLose_10 (by decide) ?_
  refine x_icmp_ne (tgt := 16) E dX7_canLose_11 (by decide) hm (fun _ hm => ?_) (fun _ hm => ?_)
  · refine x_aload_n E dX7_canLose_16 rfl 0 rfl ?_
    refine x_gf (v := .int (rd w_1 12 0 14)) E fr_X7_155 rfl rfl dX7_canLose_17 ?_
    refine x_aload_n E dX7_canLose_20 rfl 0 rfl ?_
    refine x_gf (v := .int (rd w_1 12 0 15)) E fr_X7_158 rfl rfl dX7_canLose_21 ?_
    refine x_callS (As := [.int (rd w_1 12 0 14), .int (rd w_1 12 0 15)]) (rest := []) E my_X7_placeOf wG998 (c_X7_placeOf l D cs ad rfl) rfl ⟨Nat.le_of_ble_eq_true rfl, Nat.le_of_ble_eq_true rfl⟩ (Nat.le_of_ble_eq_true rfl) dX7_canLose_24 ?_
    refine x_bI hm (fun x_2 hm => ?_)
    refine x_istore (lv' := [(4, .int x_2), (0, .ref (ad 12 0)), (1, .int a1), (2, .int a2), (3, .int a3)]) E dX7_canLose_27 (by decide) rfl ?_
    refine x_aload_n E dX7_canLose_29 rfl 1 rfl ?_
    refine x_gf (v := .int (rd w_1 12 0 17)) E fr_X7_164 rfl rfl dX7_canLose_30 ?_
    refine x_bI hm (fun x_3 hm => ?_)
    refine x_istore (lv' := [(5, .int x_3), (4, .int x_2), (0, .ref (ad 12 0)), (1, .int a1), (2, .int a2), (3, .int a3)]) E dX7_canLose_33 (by decide) rfl ?_
    refine x_aload_n E dX7_canLose_35 rfl 2 rfl ?_
    refine x_iload_n E dX7_canLose_36 rfl 4 rfl ?_
    refine x_iload_n E dX7_canLose_37 rfl 5 rfl ?_
    obtain ⟨w_4, hc, hm⟩ := ob_inv hm
    refine x_callV (As := [.int a2, .int a3]) (rest := []) E my_X7_goAlong wG914 (c_X7_goAlong l D cs ad hc) rfl rfl rfl ⟨Nat.le_of_ble_eq_true rfl, Nat.le_of_ble_eq_true rfl⟩ (Nat.le_of_ble_eq_true rfl) dX7_canLose_38 ?_
    refine x_aload_n E dX7_canLose_41 rfl 2 rfl ?_
    refine x_gf (v := .int (rd w_4 12 0 14)) E fr_X7_155 rfl rfl dX7_canLose_42 ?_
    refine x_iconst (v := (iI (-1))) E dX7_canLose_45 (by decide) ?_
    refine x_icmp_ne (tgt := 51) E dX7_canLose_46 (by decide) hm (fun _ hm => ?_) (fun _ hm => ?_)
    · refine x_aload_n E dX7_canLose_51 rfl 2 rfl ?_
      refine x_gf (v := .ref (ad 12 8)) E fr_X7_35 rfl rfl dX7_canLose_52 ?_
      refine x_bipush (v := (iI 15)) E dX7_canLose_55 (by decide) ?_
      refine x_iload E dX7_canLose_57 1 rfl ?_
      refine x_imul E dX7_canLose_59 ?_
      refine x_aload_n E dX7_canLose_60 rfl 2 rfl ?_
      refine x_gf (v := .int (rd w_4 12 0 14)) E fr_X7_155 rfl rfl dX7_canLose_61 ?_
      refine x_aload_n E dX7_canLose_64 rfl 2 rfl ?_
      refine x_gf (v := .int (rd w_4 12 0 15)) E fr_X7_158 rfl rfl dX7_canLose_65 ?_
      refine x_callS (As := [.int (rd w_4 12 0 14), .int (rd w_4 12 0 15)]) (rest := [.int ((iI 15) * x_2), .ref (ad 12 8)]) E my_X7_placeOf wG998 (c_X7_placeOf l D cs ad rfl) rfl ⟨Nat.le_of_ble_eq_true rfl, Nat.le_of_ble_eq_true rfl⟩ (Nat.le_of_ble_eq_true rfl) dX7_canLose_68 ?_
      refine x_iadd E dX7_canLose_71 ?_
      refine x_iald E rfl rfl (by decide) dX7_canLose_72 hm (fun x_5 hm => ?_)
      refine x_istore (lv' := [(6, .int x_5), (5, .int x_3), (4, .int x_2), (0, .ref (ad 12 0)), (1, .int a1), (2, .int a2), (3, .int a3)]) E dX7_canLose_73 (by decide) rfl ?_
      refine x_iload E dX7_canLose_75 0 rfl ?_
      refine x_ldc (v := (iI (-100000))) E wG981 dX7_canLose_77 ?_
      refine x_icmp_ne (tgt := 84) E dX7_canLose_79 (by decide) hm (fun _ hm => ?_) (fun _ hm => ?_)
      · refine x_aload_n E dX7_canLose_84 rfl 3 rfl ?_
        refine x_gf (v := .int (rd w_4 12 0 17)) E fr_X7_164 rfl rfl dX7_canLose_85 ?_
        refine x_iload E dX7_canLose_88 0 rfl ?_
        refine x_iadd E dX7_canLose_90 ?_
        refine x_iload E dX7_canLose_91 1 rfl ?_
        refine x_isub E dX7_canLose_93 ?_
        refine x_bI hm (fun x_6 hm => ?_)
        refine x_istore (lv' := [(7, .int x_6), (6, .int x_5), (5, .int x_3), (4, .int x_2), (0, .ref (ad 12 0)), (1, .int a1), (2, .int a2), (3, .int a3)]) E dX7_canLose_94 (by decide) rfl ?_
        refine x_iload E dX7_canLose_96 0 rfl ?_
        refine x_if_gt (tgt := 111) E dX7_canLose_98 (by decide) hm (fun _ hm => ?_) (fun _ hm => ?_)
        · refine x_iconst (v := (iI 1)) E dX7_canLose_111 (by decide) ?_
          refine x_goto (tgt := 116) E dX7_canLose_112 (by decide) ?_
          exact x_zretS E rfl hm dX7_canLose_116
        · refine x_iload E dX7_canLose_101 0 rfl ?_
          refine x_if_ne (tgt := 115) E dX7_canLose_103 (by decide) hm (fun _ hm => ?_) (fun _ hm => ?_)
          · refine x_iconst (v := (iI 0)) E dX7_canLose_115 (by decide) ?_
            exact x_zretS E rfl hm dX7_canLose_116
          · refine x_iload_n E dX7_canLose_106 rfl 6 rfl ?_
            refine x_iload_n E dX7_canLose_107 rfl 5 rfl ?_
            refine x_icmp_ge (tgt := 115) E dX7_canLose_108 (by decide) hm (fun _ hm => ?_) (fun _ hm => ?_)
            · refine x_iconst (v := (iI 0)) E dX7_canLose_115 (by decide) ?_
              exact x_zretS E rfl hm dX7_canLose_116
            · refine x_iconst (v := (iI 1)) E dX7_canLose_111 (by decide) ?_
              refine x_goto (tgt := 116) E dX7_canLose_112 (by decide) ?_
              exact x_zretS E rfl hm dX7_canLose_116
      · refine x_iconst (v := (iI 0)) E dX7_canLose_82 (by decide) ?_
        exact x_zretS E rfl hm dX7_canLose_83
    · refine x_iconst (v := (iI 0)) E dX7_canLose_49 (by decide) ?_
      exact x_zretS E rfl hm dX7_canLose_50
  · refine x_iconst (v := (iI 0)) E dX7_canLose_14 (by decide) ?_
    exact x_zretS E rfl hm dX7_canLose_15
set_option maxRecDepth 100000 in
set_option maxHeartbeats 4000000 in
theorem c_X7_layLoses (l : Launch) (D : va_G) (cs : vCs) (ad : Nat → Nat → Nat) {w : Wd} {a1 : Int32} {a2 : Int32} {w' : Wd} (hm : X7_layLoses w a1 a2 = some w') : Mc l yX7_layLoses cX7_layLoses 5 none 6 147 D cs ad [.ref (ad 12 0), .int a1, .int a2] w none w' := by
  refine Mc.of (by decide) (Nat.le_of_ble_eq_true rfl) ?_
  intro p e s m args below meth c E
  replace E : EV p m c cX7_layLoses 5 s args RX7 yX7_layLoses none meth D cs ad := E
  have hL24 : ∀ (k6 : Int32 → Int32 → Int32 → Wd → Option Wd) (hk6 : ∀ (b1 : Int32) (b2 : Int32) (b3 : Int32) (w : Wd), k6 b1 b2 b3 w = some w' → XV p l e { frames := 6, cells := 0, slots := 0, locals := 147 } s m args below meth c 5 D cs ad (MQ below (xQ D cs ad none w') args s 0 0 (xF ad)) 6 [(0, .ref (ad 12 0)), (1, .int b1), (2, .int b2), (3, .int b3)] [] w) (b1 : Int32) (b2 : Int32) (b3 : Int32) (w : Wd), X7_layLoses_L24 k6 b1 b2 b3 w = some w' → XV p l e { frames := 6, cells := 0, slots := 0, locals := 147 } s m args below meth c 5 D cs ad (MQ below (xQ D cs ad none w') args s 0 0 (xF ad)) 24 [(0, .ref (ad 12 0)), (1, .int b1), (2, .int b2), (3, .int b3)] [] w := by
    intro k6 hk6 b1 b2 b3 w hm
    unfold X7_layLoses_L24 at hm
    refine x_aload_n E dX7_layLoses_24 rfl 0 rfl ?_
    refine x_gf (v := .int (rd w 12 0 7)) E fr_X7_22 rfl rfl dX7_layLoses_25 ?_
    refine x_iload_n E dX7_layLoses_28 rfl 3 rfl ?_
    refine x_isub E dX7_layLoses_29 ?_
    refine x_bI hm (fun x_3 hm => ?_)
    refine x_istore (lv' := [(4, .int x_3), (0, .ref (ad 12 0)), (1, .int b1), (2, .int b2), (3, .int b3)]) E dX7_layLoses_30 (by decide) rfl ?_
    refine x_iload E dX7_layLoses_32 0 rfl ?_
    refine x_aload_n E dX7_layLoses_34 rfl 1 rfl ?_
    refine x_gf (v := .int (rd w 12 0 8)) E fr_X7_133 rfl rfl dX7_layLoses_35 ?_
    refine x_icmp_gt (tgt := 74) E dX7_layLoses_38 (by decide) hm (fun _ hm => ?_) (fun _ hm => ?_)
    · refine x_iincB (lv' := fun x_4 => [(3, .int x_4), (4, .int x_3), (0, .ref (ad 12 0)), (1, .int b1), (2, .int b2)]) (j := 4) E dX7_layLoses_74 rfl rfl (by decide) (fun _ => rfl) hm (fun x_4 hm => ?_)
      refine x_goto (tgt := 6) E dX7_layLoses_77 (by decide) ?_
      exact x_weak [2, 3, 4, 0] rfl (hk6 b1 b2 x_4 w hm)
    · refine x_aload_n E dX7_layLoses_41 rfl 1 rfl ?_
      refine x_gf (v := .ref (ad 12 10)) E fr_X7_41 rfl rfl dX7_layLoses_42 ?_
      refine x_iload E dX7_layLoses_45 0 rfl ?_
      refine x_aload_n E dX7_layLoses_47 rfl 1 rfl ?_
      refine x_gf (v := .ref (ad 12 10)) E fr_X7_41 rfl rfl dX7_layLoses_48 ?_
      refine x_iload E dX7_layLoses_51 0 rfl ?_
      refine x_zald E rfl rfl (by decide) dX7_layLoses_53 hm (fun x_5 hm => ?_)
      refine x_if_eq (tgt := 72) E dX7_layLoses_54 (by decide) hm (fun _ hm => ?_) (fun _ hm => ?_)
      · refine x_iconst (v := (iI 0)) E dX7_layLoses_72 (by decide) ?_
        refine x_zast E rfl rfl (by decide) dX7_layLoses_73 hm (fun w_6 hm => ?_)
        refine x_iincB (lv' := fun x_7 => [(3, .int x_7), (4, .int x_3), (0, .ref (ad 12 0)), (1, .int b1), (2, .int b2)]) (j := 4) E dX7_layLoses_74 rfl rfl (by decide) (fun _ => rfl) hm (fun x_7 hm => ?_)
        refine x_goto (tgt := 6) E dX7_layLoses_77 (by decide) ?_
        exact x_weak [2, 3, 4, 0] rfl (hk6 b1 b2 x_7 w_6 hm)
      · refine x_aload_n E dX7_layLoses_57 rfl 1 rfl ?_
        refine x_iload_n E dX7_layLoses_58 rfl 2 rfl ?_
        refine x_iload_n E dX7_layLoses_59 rfl 3 rfl ?_
        refine x_iload E dX7_layLoses_60 0 rfl ?_
        obtain ⟨r_8, w_9, hc, hm⟩ := bI_inv hm
        refine x_callV (As := [.int b1, .int b2, .int x_3]) (rest := [.int x_3, .ref (ad 12 10)]) E my_X7_canLose wG1001 (c_X7_canLose l D cs ad hc) rfl rfl rfl ⟨Nat.le_of_ble_eq_true rfl, Nat.le_of_ble_eq_true rfl⟩ (Nat.le_of_ble_eq_true rfl) dX7_layLoses_62 ?_
        refine x_if_ne (tgt := 72) E dX7_layLoses_65 (by decide) hm (fun _ hm => ?_) (fun _ hm => ?_)
        · refine x_iconst (v := (iI 0)) E dX7_layLoses_72 (by decide) ?_
          refine x_zast E rfl rfl (by decide) dX7_layLoses_73 hm (fun w_10 hm => ?_)
          refine x_iincB (lv' := fun x_11 => [(3, .int x_11), (4, .int x_3), (0, .ref (ad 12 0)), (1, .int b1), (2, .int b2)]) (j := 4) E dX7_layLoses_74 rfl rfl (by decide) (fun _ => rfl) hm (fun x_11 hm => ?_)
          refine x_goto (tgt := 6) E dX7_layLoses_77 (by decide) ?_
          exact x_weak [2, 3, 4, 0] rfl (hk6 b1 b2 x_11 w_10 hm)
        · refine x_iconst (v := (iI 1)) E dX7_layLoses_68 (by decide) ?_
          refine x_goto (tgt := 73) E dX7_layLoses_69 (by decide) ?_
          refine x_zast E rfl rfl (by decide) dX7_layLoses_73 hm (fun w_12 hm => ?_)
          refine x_iincB (lv' := fun x_13 => [(3, .int x_13), (4, .int x_3), (0, .ref (ad 12 0)), (1, .int b1), (2, .int b2)]) (j := 4) E dX7_layLoses_74 rfl rfl (by decide) (fun _ => rfl) hm (fun x_13 hm => ?_)
          refine x_goto (tgt := 6) E dX7_layLoses_77 (by decide) ?_
          exact x_weak [2, 3, 4, 0] rfl (hk6 b1 b2 x_13 w_12 hm)
  have hL6 : ∀ (fuel : Nat) (b1 : Int32) (b2 : Int32) (b3 : Int32) (w : Wd), X7_layLoses_L6 fuel b1 b2 b3 w = some w' → XV p l e { frames := 6, cells := 0, slots := 0, locals := 147 } s m args below meth c 5 D cs ad (MQ below (xQ D cs ad none w') args s 0 0 (xF ad)) 6 [(0, .ref (ad 12 0)), (1, .int b1), (2, .int b2), (3, .int b3)] [] w := by
    intro fuel
    induction fuel with
    | zero => intro b1 b2 b3 w hm; cases hm
    | succ fuel ih =>
      intro b1 b2 b3 w hm
      rw [X7_layLoses_L6] at hm
      refine x_iload_n E dX7_layLoses_6 rfl 3 rfl ?_
      refine x_aload_n E dX7_layLoses_7 rfl 0 rfl ?_
      refine x_gf (v := .int (rd w 12 0 7)) E fr_X7_22 rfl rfl dX7_layLoses_8 ?_
      refine x_icmp_gt (tgt := 80) E dX7_layLoses_11 (by decide) hm (fun _ hm => ?_) (fun _ hm => ?_)
      · exact x_vretS E hm dX7_layLoses_80
      · refine x_iload_n E dX7_layLoses_14 rfl 3 rfl ?_
        refine x_if_le (tgt := 24) E dX7_layLoses_15 (by decide) hm (fun _ hm => ?_) (fun _ hm => ?_)
        · exact (hL24 _ (ih)) b1 b2 b3 w hm
        · refine x_aload_n E dX7_layLoses_18 rfl 0 rfl ?_
          refine x_iload_n E dX7_layLoses_19 rfl 1 rfl ?_
          refine x_iload_n E dX7_layLoses_20 rfl 2 rfl ?_
          obtain ⟨w_2, hc, hm⟩ := ob_inv hm
          refine x_callV (As := [.int b1, .int b2]) (rest := []) E my_X7_goBack wG982 (c_X7_goBack l D cs ad hc) rfl rfl rfl ⟨Nat.le_of_ble_eq_true rfl, Nat.le_of_ble_eq_true rfl⟩ (Nat.le_of_ble_eq_true rfl) dX7_layLoses_21 ?_
          exact (hL24 _ (ih)) b1 b2 b3 w_2 hm
  unfold X7_layLoses at hm
  refine x_aload_n E dX7_layLoses_0 rfl 0 rfl ?_
  obtain ⟨w_1, hc, hm⟩ := ob_inv hm
  refine x_callV (As := []) (rest := []) E my_X7_beginBack wG977 (c_X7_beginBack l D cs ad hc) rfl rfl rfl ⟨Nat.le_of_ble_eq_true rfl, Nat.le_of_ble_eq_true rfl⟩ (Nat.le_of_ble_eq_true rfl) dX7_layLoses_1 ?_
  refine x_iconst (v := (iI 0)) E dX7_layLoses_4 (by decide) ?_
  refine x_istore_n (lv' := [(3, .int (iI 0)), (0, .ref (ad 12 0)), (1, .int a1), (2, .int a2)]) E dX7_layLoses_5 rfl (by decide) rfl ?_
  exact x_weak [1, 2, 3, 0] rfl ((hL6 1000) a1 a2 (iI 0) w_1 hm)
set_option maxRecDepth 100000 in
set_option maxHeartbeats 4000000 in
theorem c_X7_sureAt (l : Launch) (D : va_G) (cs : vCs) (ad : Nat → Nat → Nat) {w : Wd} {a1 : Int32} {r : Int32} {w' : Wd} (hm : X7_sureAt w a1 = some (r, w')) : Mc l yX7_sureAt cX7_sureAt 3 (some .int) 7 171 D cs ad [.ref (ad 12 0), .int a1] w (some (.int r)) w' := by
  refine Mc.of (by decide) (Nat.le_of_ble_eq_true rfl) ?_
  intro p e s m args below meth c E
  replace E : EV p m c cX7_sureAt 3 s args RX7 yX7_sureAt (some .int) meth D cs ad := E
  have hL7 : ∀ (fuel : Nat) (k32 : Wd → Option (Int32 × Wd)) (hk32 : ∀ (w : Wd), k32 w = some (r, w') → XV p l e { frames := 7, cells := 0, slots := 0, locals := 171 } s m args below meth c 3 D cs ad (MQ below (xQ D cs ad (some (.int r)) w') args s 0 0 (xF ad)) 32 [(0, .ref (ad 12 0))] [] w) (b1 : Int32) (b2 : Int32) (w : Wd), X7_sureAt_L7 fuel k32 b1 b2 w = some (r, w') → XV p l e { frames := 7, cells := 0, slots := 0, locals := 171 } s m args below meth c 3 D cs ad (MQ below (xQ D cs ad (some (.int r)) w') args s 0 0 (xF ad)) 7 [(0, .ref (ad 12 0)), (1, .int b1), (2, .int b2)] [] w := by
    intro fuel
    induction fuel with
    | zero => intro k32 hk32 b1 b2 w hm; cases hm
    | succ fuel ih =>
      intro k32 hk32 b1 b2 w hm
      rw [X7_sureAt_L7] at hm
      refine x_iload_n E dX7_sureAt_7 rfl 2 rfl ?_
      refine x_aload_n E dX7_sureAt_8 rfl 0 rfl ?_
      refine x_gf (v := .int (rd w 12 0 0)) E fr_X7_110 rfl rfl dX7_sureAt_9 ?_
      refine x_icmp_ge (tgt := 32) E dX7_sureAt_12 (by decide) hm (fun _ hm => ?_) (fun _ hm => ?_)
      · exact x_weak [0] rfl (hk32 w hm)
      · refine x_iload_n E dX7_sureAt_15 rfl 2 rfl ?_
        refine x_iload_n E dX7_sureAt_16 rfl 1 rfl ?_
        refine x_icmp_eq (tgt := 26) E dX7_sureAt_17 (by decide) hm (fun _ hm => ?_) (fun _ hm => ?_)
        · refine x_iincB (lv' := fun x_2 => [(2, .int x_2), (0, .ref (ad 12 0)), (1, .int b1)]) (j := 2) E dX7_sureAt_26 rfl rfl (by decide) (fun _ => rfl) hm (fun x_2 hm => ?_)
          refine x_goto (tgt := 7) E dX7_sureAt_29 (by decide) ?_
          exact x_weak [1, 2, 0] rfl ((ih _ hk32) b1 x_2 w hm)
        · refine x_aload_n E dX7_sureAt_20 rfl 0 rfl ?_
          refine x_iload_n E dX7_sureAt_21 rfl 1 rfl ?_
          refine x_iload_n E dX7_sureAt_22 rfl 2 rfl ?_
          obtain ⟨w_3, hc, hm⟩ := ob_inv hm
          refine x_callV (As := [.int b1, .int b2]) (rest := []) E my_X7_layLoses wG973 (c_X7_layLoses l D cs ad hc) rfl rfl rfl ⟨Nat.le_of_ble_eq_true rfl, Nat.le_of_ble_eq_true rfl⟩ (Nat.le_of_ble_eq_true rfl) dX7_sureAt_23 ?_
          refine x_iincB (lv' := fun x_4 => [(2, .int x_4), (0, .ref (ad 12 0)), (1, .int b1)]) (j := 2) E dX7_sureAt_26 rfl rfl (by decide) (fun _ => rfl) hm (fun x_4 hm => ?_)
          refine x_goto (tgt := 7) E dX7_sureAt_29 (by decide) ?_
          exact x_weak [1, 2, 0] rfl ((ih _ hk32) b1 x_4 w_3 hm)
  have hL34 : ∀ (fuel : Nat) (b2 : Int32) (w : Wd), X7_sureAt_L34 fuel b2 w = some (r, w') → XV p l e { frames := 7, cells := 0, slots := 0, locals := 171 } s m args below meth c 3 D cs ad (MQ below (xQ D cs ad (some (.int r)) w') args s 0 0 (xF ad)) 34 [(0, .ref (ad 12 0)), (2, .int b2)] [] w := by
    intro fuel
    induction fuel with
    | zero => intro b2 w hm; cases hm
    | succ fuel ih =>
      intro b2 w hm
      rw [X7_sureAt_L34] at hm
      refine x_iload_n E dX7_sureAt_34 rfl 1 rfl ?_
      refine x_aload_n E dX7_sureAt_35 rfl 0 rfl ?_
      refine x_gf (v := .int (rd w 12 0 8)) E fr_X7_133 rfl rfl dX7_sureAt_36 ?_
      refine x_icmp_gt (tgt := 59) E dX7_sureAt_39 (by decide) hm (fun _ hm => ?_) (fun _ hm => ?_)
      · refine x_iconst (v := (iI (-1))) E dX7_sureAt_59 (by decide) ?_
        exact x_iretS E hm dX7_sureAt_60
      · refine x_aload_n E dX7_sureAt_42 rfl 0 rfl ?_
        refine x_gf (v := .ref (ad 12 10)) E fr_X7_41 rfl rfl dX7_sureAt_43 ?_
        refine x_iload_n E dX7_sureAt_46 rfl 1 rfl ?_
        refine x_zald E rfl rfl (by decide) dX7_sureAt_47 hm (fun x_5 hm => ?_)
        refine x_if_eq (tgt := 53) E dX7_sureAt_48 (by decide) hm (fun _ hm => ?_) (fun _ hm => ?_)
        · refine x_iincB (lv' := fun x_6 => [(2, .int x_6), (0, .ref (ad 12 0))]) (j := 1) E dX7_sureAt_53 rfl rfl (by decide) (fun _ => rfl) hm (fun x_6 hm => ?_)
          refine x_goto (tgt := 34) E dX7_sureAt_56 (by decide) ?_
          exact x_weak [1, 0] rfl ((ih) x_6 w hm)
        · refine x_iload_n E dX7_sureAt_51 rfl 1 rfl ?_
          exact x_iretS E hm dX7_sureAt_52
  have hL32 : ∀ (w : Wd), X7_sureAt_L32 w = some (r, w') → XV p l e { frames := 7, cells := 0, slots := 0, locals := 171 } s m args below meth c 3 D cs ad (MQ below (xQ D cs ad (some (.int r)) w') args s 0 0 (xF ad)) 32 [(0, .ref (ad 12 0))] [] w := by
    intro w hm
    unfold X7_sureAt_L32 at hm
    refine x_iconst (v := (iI 0)) E dX7_sureAt_32 (by decide) ?_
    refine x_istore_n (lv' := [(2, .int (iI 0)), (0, .ref (ad 12 0))]) E dX7_sureAt_33 rfl (by decide) rfl ?_
    exact x_weak [1, 0] rfl ((hL34 1000) (iI 0) w hm)
  unfold X7_sureAt at hm
  refine x_aload_n E dX7_sureAt_0 rfl 0 rfl ?_
  refine x_iload_n E dX7_sureAt_1 rfl 1 rfl ?_
  obtain ⟨w_1, hc, hm⟩ := ob_inv hm
  refine x_callV (As := [.int a1]) (rest := []) E my_X7_layCan wG962 (c_X7_layCan l D cs ad hc) rfl rfl rfl ⟨Nat.le_of_ble_eq_true rfl, Nat.le_of_ble_eq_true rfl⟩ (Nat.le_of_ble_eq_true rfl) dX7_sureAt_2 ?_
  refine x_iconst (v := (iI 0)) E dX7_sureAt_5 (by decide) ?_
  refine x_istore_n (lv' := [(2, .int (iI 0)), (0, .ref (ad 12 0)), (1, .int a1)]) E dX7_sureAt_6 rfl (by decide) rfl ?_
  exact x_weak [1, 2, 0] rfl ((hL7 1000 _ (hL32)) a1 (iI 0) w_1 hm)
set_option maxRecDepth 100000 in
set_option maxHeartbeats 4000000 in
theorem c_X7_rankKey (l : Launch) (D : va_G) (cs : vCs) (ad : Nat → Nat → Nat) {w : Wd} {a1 : Int32} {r : Int32} {w' : Wd} (hm : X7_rankKey w a1 = some (r, w')) : Mc l yX7_rankKey cX7_rankKey 3 (some .int) 6 136 D cs ad [.ref (ad 12 0), .int a1] w (some (.int r)) w' := by
  refine Mc.of (by decide) (Nat.le_of_ble_eq_true rfl) ?_
  intro p e s m args below meth c E
  replace E : EV p m c cX7_rankKey 3 s args RX7 yX7_rankKey (some .int) meth D cs ad := E
  unfold X7_rankKey at hm
  refine x_aload_n E dX7_rankKey_0 rfl 0 rfl ?_
  refine x_iload_n E dX7_rankKey_1 rfl 1 rfl ?_
  obtain ⟨r_1, w_2, hc, hm⟩ := bI_inv hm
  refine x_callV (As := [.int a1]) (rest := []) E my_X7_isValid wG942 (c_X7_isValid l D cs ad hc) rfl rfl rfl ⟨Nat.le_of_ble_eq_true rfl, Nat.le_of_ble_eq_true rfl⟩ (Nat.le_of_ble_eq_true rfl) dX7_rankKey_2 ?_
  refine x_if_eq (tgt := 12) E dX7_rankKey_5 (by decide) hm (fun _ hm => ?_) (fun _ hm => ?_)
  · refine x_aload_n E dX7_rankKey_12 rfl 0 rfl ?_
    refine x_gf (v := .int (rd w_2 12 0 14)) E fr_X7_155 rfl rfl dX7_rankKey_13 ?_
    refine x_iconst (v := (iI (-1))) E dX7_rankKey_16 (by decide) ?_
    refine x_icmp_eq (tgt := 24) E dX7_rankKey_17 (by decide) hm (fun _ hm => ?_) (fun _ hm => ?_)
    · refine x_iconst (v := (iI 0)) E dX7_rankKey_24 (by decide) ?_
      refine x_istore_n (lv' := [(2, .int (iI 0)), (0, .ref (ad 12 0)), (1, .int a1)]) E dX7_rankKey_25 rfl (by decide) rfl ?_
      refine x_sipush (v := (iI 1000)) E dX7_rankKey_26 (by decide) ?_
      refine x_iload_n E dX7_rankKey_29 rfl 0 rfl ?_
      refine x_imul E dX7_rankKey_30 ?_
      refine x_aload_n E dX7_rankKey_31 rfl 1 rfl ?_
      refine x_gf (v := .int (rd w_2 12 0 17)) E fr_X7_164 rfl rfl dX7_rankKey_32 ?_
      refine x_iadd E dX7_rankKey_35 ?_
      exact x_iretS E hm dX7_rankKey_36
    · refine x_iconst (v := (iI 1)) E dX7_rankKey_20 (by decide) ?_
      refine x_goto (tgt := 25) E dX7_rankKey_21 (by decide) ?_
      refine x_istore_n (lv' := [(2, .int (iI 1)), (0, .ref (ad 12 0)), (1, .int a1)]) E dX7_rankKey_25 rfl (by decide) rfl ?_
      refine x_sipush (v := (iI 1000)) E dX7_rankKey_26 (by decide) ?_
      refine x_iload_n E dX7_rankKey_29 rfl 0 rfl ?_
      refine x_imul E dX7_rankKey_30 ?_
      refine x_aload_n E dX7_rankKey_31 rfl 1 rfl ?_
      refine x_gf (v := .int (rd w_2 12 0 17)) E fr_X7_164 rfl rfl dX7_rankKey_32 ?_
      refine x_iadd E dX7_rankKey_35 ?_
      exact x_iretS E hm dX7_rankKey_36
  · refine x_iconst (v := (iI 2)) E dX7_rankKey_8 (by decide) ?_
    refine x_goto (tgt := 25) E dX7_rankKey_9 (by decide) ?_
    refine x_istore_n (lv' := [(2, .int (iI 2)), (0, .ref (ad 12 0)), (1, .int a1)]) E dX7_rankKey_25 rfl (by decide) rfl ?_
    refine x_sipush (v := (iI 1000)) E dX7_rankKey_26 (by decide) ?_
    refine x_iload_n E dX7_rankKey_29 rfl 0 rfl ?_
    refine x_imul E dX7_rankKey_30 ?_
    refine x_aload_n E dX7_rankKey_31 rfl 1 rfl ?_
    refine x_gf (v := .int (rd w_2 12 0 17)) E fr_X7_164 rfl rfl dX7_rankKey_32 ?_
    refine x_iadd E dX7_rankKey_35 ?_
    exact x_iretS E hm dX7_rankKey_36
set_option maxRecDepth 100000 in
set_option maxHeartbeats 4000000 in
theorem c_X7_isAhead (l : Launch) (D : va_G) (cs : vCs) (ad : Nat → Nat → Nat) {w : Wd} {a1 : Int32} {a2 : Int32} {r : Int32} {w' : Wd} (hm : X7_isAhead w a1 a2 = some (r, w')) : Mc l yX7_isAhead cX7_isAhead 5 (some .boolean) 7 158 D cs ad [.ref (ad 12 0), .int a1, .int a2] w (some (.int r)) w' := by
  refine Mc.of (by decide) (Nat.le_of_ble_eq_true rfl) ?_
  intro p e s m args below meth c E
  replace E : EV p m c cX7_isAhead 5 s args RX7 yX7_isAhead (some .boolean) meth D cs ad := E
  unfold X7_isAhead at hm
  refine x_aload_n E dX7_isAhead_0 rfl 0 rfl ?_
  refine x_iload_n E dX7_isAhead_1 rfl 1 rfl ?_
  obtain ⟨r_1, w_2, hc, hm⟩ := bI_inv hm
  refine x_callV (As := [.int a1]) (rest := []) E my_X7_rankKey wG1013 (c_X7_rankKey l D cs ad hc) rfl rfl rfl ⟨Nat.le_of_ble_eq_true rfl, Nat.le_of_ble_eq_true rfl⟩ (Nat.le_of_ble_eq_true rfl) dX7_isAhead_2 ?_
  refine x_istore_n (lv' := [(3, .int r_1), (0, .ref (ad 12 0)), (1, .int a1), (2, .int a2)]) E dX7_isAhead_5 rfl (by decide) rfl ?_
  refine x_aload_n E dX7_isAhead_6 rfl 1 rfl ?_
  refine x_iload_n E dX7_isAhead_7 rfl 3 rfl ?_
  obtain ⟨r_3, w_4, hc, hm⟩ := bI_inv hm
  refine x_callV (As := [.int a2]) (rest := []) E my_X7_rankKey wG1013 (c_X7_rankKey l D cs ad hc) rfl rfl rfl ⟨Nat.le_of_ble_eq_true rfl, Nat.le_of_ble_eq_true rfl⟩ (Nat.le_of_ble_eq_true rfl) dX7_isAhead_8 ?_
  refine x_istore (lv' := [(4, .int r_3), (3, .int r_1), (0, .ref (ad 12 0)), (1, .int a1), (2, .int a2)]) E dX7_isAhead_11 (by decide) rfl ?_
  refine x_iload_n E dX7_isAhead_13 rfl 1 rfl ?_
  refine x_iload E dX7_isAhead_14 0 rfl ?_
  refine x_icmp_gt (tgt := 30) E dX7_isAhead_16 (by decide) hm (fun _ hm => ?_) (fun _ hm => ?_)
  · refine x_iconst (v := (iI 1)) E dX7_isAhead_30 (by decide) ?_
    refine x_goto (tgt := 35) E dX7_isAhead_31 (by decide) ?_
    exact x_zretS E rfl hm dX7_isAhead_35
  · refine x_iload_n E dX7_isAhead_19 rfl 1 rfl ?_
    refine x_iload E dX7_isAhead_20 0 rfl ?_
    refine x_icmp_ne (tgt := 34) E dX7_isAhead_22 (by decide) hm (fun _ hm => ?_) (fun _ hm => ?_)
    · refine x_iconst (v := (iI 0)) E dX7_isAhead_34 (by decide) ?_
      exact x_zretS E rfl hm dX7_isAhead_35
    · refine x_iload_n E dX7_isAhead_25 rfl 3 rfl ?_
      refine x_iload_n E dX7_isAhead_26 rfl 4 rfl ?_
      refine x_icmp_ge (tgt := 34) E dX7_isAhead_27 (by decide) hm (fun _ hm => ?_) (fun _ hm => ?_)
      · refine x_iconst (v := (iI 0)) E dX7_isAhead_34 (by decide) ?_
        exact x_zretS E rfl hm dX7_isAhead_35
      · refine x_iconst (v := (iI 1)) E dX7_isAhead_30 (by decide) ?_
        refine x_goto (tgt := 35) E dX7_isAhead_31 (by decide) ?_
        exact x_zretS E rfl hm dX7_isAhead_35
set_option maxRecDepth 100000 in
set_option maxHeartbeats 4000000 in
theorem c_X7_rankOf (l : Launch) (D : va_G) (cs : vCs) (ad : Nat → Nat → Nat) {w : Wd} {a1 : Int32} {r : Int32} {w' : Wd} (hm : X7_rankOf w a1 = some (r, w')) : Mc l yX7_rankOf cX7_rankOf 4 (some .int) 8 182 D cs ad [.ref (ad 12 0), .int a1] w (some (.int r)) w' := by
  refine Mc.of (by decide) (Nat.le_of_ble_eq_true rfl) ?_
  intro p e s m args below meth c E
  replace E : EV p m c cX7_rankOf 4 s args RX7 yX7_rankOf (some .int) meth D cs ad := E
  have hL4 : ∀ (fuel : Nat) (b1 : Int32) (b2 : Int32) (b3 : Int32) (w : Wd), X7_rankOf_L4 fuel b1 b2 b3 w = some (r, w') → XV p l e { frames := 8, cells := 0, slots := 0, locals := 182 } s m args below meth c 4 D cs ad (MQ below (xQ D cs ad (some (.int r)) w') args s 0 0 (xF ad)) 4 [(0, .ref (ad 12 0)), (1, .int b1), (2, .int b2), (3, .int b3)] [] w := by
    intro fuel
    induction fuel with
    | zero => intro b1 b2 b3 w hm; cases hm
    | succ fuel ih =>
      intro b1 b2 b3 w hm
      rw [X7_rankOf_L4] at hm
      refine x_iload_n E dX7_rankOf_4 rfl 3 rfl ?_
      refine x_aload_n E dX7_rankOf_5 rfl 0 rfl ?_
      refine x_gf (v := .int (rd w 12 0 0)) E fr_X7_110 rfl rfl dX7_rankOf_6 ?_
      refine x_icmp_ge (tgt := 40) E dX7_rankOf_9 (by decide) hm (fun _ hm => ?_) (fun _ hm => ?_)
      · refine x_iload_n E dX7_rankOf_40 rfl 2 rfl ?_
        exact x_iretS E hm dX7_rankOf_41
      · refine x_iload_n E dX7_rankOf_12 rfl 2 rfl ?_
        refine x_iload_n E dX7_rankOf_13 rfl 3 rfl ?_
        refine x_iload_n E dX7_rankOf_14 rfl 1 rfl ?_
        refine x_icmp_eq (tgt := 31) E dX7_rankOf_15 (by decide) hm (fun _ hm => ?_) (fun _ hm => ?_)
        · refine x_iconst (v := (iI 0)) E dX7_rankOf_31 (by decide) ?_
          refine x_iadd E dX7_rankOf_32 ?_
          refine x_bI hm (fun x_1 hm => ?_)
          refine x_istore_n (lv' := [(2, .int x_1), (0, .ref (ad 12 0)), (1, .int b1), (3, .int b3)]) E dX7_rankOf_33 rfl (by decide) rfl ?_
          refine x_iincB (lv' := fun x_2 => [(3, .int x_2), (2, .int x_1), (0, .ref (ad 12 0)), (1, .int b1)]) (j := 3) E dX7_rankOf_34 rfl rfl (by decide) (fun _ => rfl) hm (fun x_2 hm => ?_)
          refine x_goto (tgt := 4) E dX7_rankOf_37 (by decide) ?_
          exact x_weak [2, 3, 1, 0] rfl ((ih) b1 x_1 x_2 w hm)
        · refine x_aload_n E dX7_rankOf_18 rfl 0 rfl ?_
          refine x_iload_n E dX7_rankOf_19 rfl 3 rfl ?_
          refine x_iload_n E dX7_rankOf_20 rfl 1 rfl ?_
          obtain ⟨r_3, w_4, hc, hm⟩ := bI_inv hm
          refine x_callV (As := [.int b3, .int b1]) (rest := [.int b2]) E my_X7_isAhead wG1009 (c_X7_isAhead l D cs ad hc) rfl rfl rfl ⟨Nat.le_of_ble_eq_true rfl, Nat.le_of_ble_eq_true rfl⟩ (Nat.le_of_ble_eq_true rfl) dX7_rankOf_21 ?_
          refine x_if_eq (tgt := 31) E dX7_rankOf_24 (by decide) hm (fun _ hm => ?_) (fun _ hm => ?_)
          · refine x_iconst (v := (iI 0)) E dX7_rankOf_31 (by decide) ?_
            refine x_iadd E dX7_rankOf_32 ?_
            refine x_bI hm (fun x_5 hm => ?_)
            refine x_istore_n (lv' := [(2, .int x_5), (0, .ref (ad 12 0)), (1, .int b1), (3, .int b3)]) E dX7_rankOf_33 rfl (by decide) rfl ?_
            refine x_iincB (lv' := fun x_6 => [(3, .int x_6), (2, .int x_5), (0, .ref (ad 12 0)), (1, .int b1)]) (j := 3) E dX7_rankOf_34 rfl rfl (by decide) (fun _ => rfl) hm (fun x_6 hm => ?_)
            refine x_goto (tgt := 4) E dX7_rankOf_37 (by decide) ?_
            exact x_weak [2, 3, 1, 0] rfl ((ih) b1 x_5 x_6 w_4 hm)
          · refine x_iconst (v := (iI 1)) E dX7_rankOf_27 (by decide) ?_
            refine x_goto (tgt := 32) E dX7_rankOf_28 (by decide) ?_
            refine x_iadd E dX7_rankOf_32 ?_
            refine x_bI hm (fun x_7 hm => ?_)
            refine x_istore_n (lv' := [(2, .int x_7), (0, .ref (ad 12 0)), (1, .int b1), (3, .int b3)]) E dX7_rankOf_33 rfl (by decide) rfl ?_
            refine x_iincB (lv' := fun x_8 => [(3, .int x_8), (2, .int x_7), (0, .ref (ad 12 0)), (1, .int b1)]) (j := 3) E dX7_rankOf_34 rfl rfl (by decide) (fun _ => rfl) hm (fun x_8 hm => ?_)
            refine x_goto (tgt := 4) E dX7_rankOf_37 (by decide) ?_
            exact x_weak [2, 3, 1, 0] rfl ((ih) b1 x_7 x_8 w_4 hm)
  unfold X7_rankOf at hm
  refine x_iconst (v := (iI 0)) E dX7_rankOf_0 (by decide) ?_
  refine x_istore_n (lv' := [(2, .int (iI 0)), (0, .ref (ad 12 0)), (1, .int a1)]) E dX7_rankOf_1 rfl (by decide) rfl ?_
  refine x_iconst (v := (iI 0)) E dX7_rankOf_2 (by decide) ?_
  refine x_istore_n (lv' := [(3, .int (iI 0)), (2, .int (iI 0)), (0, .ref (ad 12 0)), (1, .int a1)]) E dX7_rankOf_3 rfl (by decide) rfl ?_
  exact x_weak [2, 3, 1, 0] rfl ((hL4 1000) a1 (iI 0) (iI 0) w hm)
set_option maxRecDepth 100000 in
set_option maxHeartbeats 4000000 in
theorem c_X7_aboutNow (l : Launch) (D : va_G) (cs : vCs) (ad : Nat → Nat → Nat) {w : Wd} {a1 : Int32} {a2 : Int32} {r : Int32} {w' : Wd} (hm : X7_aboutNow w a1 a2 = some (r, w')) : Mc l yX7_aboutNow cX7_aboutNow 3 (some .int) 9 205 D cs ad [.ref (ad 12 0), .int a1, .int a2] w (some (.int r)) w' := by
  refine Mc.of (by decide) (Nat.le_of_ble_eq_true rfl) ?_
  intro p e s m args below meth c E
  replace E : EV p m c cX7_aboutNow 3 s args RX7 yX7_aboutNow (some .int) meth D cs ad := E
  unfold X7_aboutNow at hm
  refine x_iload_n E dX7_aboutNow_0 rfl 2 rfl ?_
  refine x_split hm (fun hx hm => ?_) (fun hs0 hm => ?_)
  · refine x_tin (kv := (iI 0)) (tgt := 44) E dX7_aboutNow_1 hx rfl (by decide) (by decide) rfl (by decide) ?_
    refine x_aload_n E dX7_aboutNow_44 rfl 0 rfl ?_
    refine x_gf (v := .ref (ad 12 1)) E fr_X7_7 rfl rfl dX7_aboutNow_45 ?_
    refine x_iload_n E dX7_aboutNow_48 rfl 1 rfl ?_
    refine x_iald E rfl rfl (by decide) dX7_aboutNow_49 hm (fun x_1 hm => ?_)
    exact x_iretS E hm dX7_aboutNow_50
  refine x_split hm (fun hx hm => ?_) (fun hs1 hm => ?_)
  · refine x_tin (kv := (iI 1)) (tgt := 51) E dX7_aboutNow_1 hx rfl (by decide) (by decide) rfl (by decide) ?_
    refine x_aload_n E dX7_aboutNow_51 rfl 0 rfl ?_
    refine x_iload_n E dX7_aboutNow_52 rfl 1 rfl ?_
    obtain ⟨r_2, w_3, hc, hm⟩ := bI_inv hm
    refine x_callV (As := [.int a1]) (rest := []) E my_X7_isAlive wG910 (c_X7_isAlive l D cs ad hc) rfl rfl rfl ⟨Nat.le_of_ble_eq_true rfl, Nat.le_of_ble_eq_true rfl⟩ (Nat.le_of_ble_eq_true rfl) dX7_aboutNow_53 ?_
    refine x_if_eq (tgt := 63) E dX7_aboutNow_56 (by decide) hm (fun _ hm => ?_) (fun _ hm => ?_)
    · refine x_iconst (v := (iI 0)) E dX7_aboutNow_63 (by decide) ?_
      exact x_iretS E hm dX7_aboutNow_64
    · refine x_iconst (v := (iI 1)) E dX7_aboutNow_59 (by decide) ?_
      refine x_goto (tgt := 64) E dX7_aboutNow_60 (by decide) ?_
      exact x_iretS E hm dX7_aboutNow_64
  refine x_split hm (fun hx hm => ?_) (fun hs2 hm => ?_)
  · refine x_tin (kv := (iI 2)) (tgt := 65) E dX7_aboutNow_1 hx rfl (by decide) (by decide) rfl (by decide) ?_
    refine x_aload_n E dX7_aboutNow_65 rfl 0 rfl ?_
    refine x_iload_n E dX7_aboutNow_66 rfl 1 rfl ?_
    obtain ⟨r_4, w_5, hc, hm⟩ := bI_inv hm
    refine x_callV (As := [.int a1]) (rest := []) E my_X7_isValid wG942 (c_X7_isValid l D cs ad hc) rfl rfl rfl ⟨Nat.le_of_ble_eq_true rfl, Nat.le_of_ble_eq_true rfl⟩ (Nat.le_of_ble_eq_true rfl) dX7_aboutNow_67 ?_
    refine x_if_eq (tgt := 77) E dX7_aboutNow_70 (by decide) hm (fun _ hm => ?_) (fun _ hm => ?_)
    · refine x_iconst (v := (iI 0)) E dX7_aboutNow_77 (by decide) ?_
      exact x_iretS E hm dX7_aboutNow_78
    · refine x_iconst (v := (iI 1)) E dX7_aboutNow_73 (by decide) ?_
      refine x_goto (tgt := 78) E dX7_aboutNow_74 (by decide) ?_
      exact x_iretS E hm dX7_aboutNow_78
  refine x_split hm (fun hx hm => ?_) (fun hs3 hm => ?_)
  · refine x_tin (kv := (iI 3)) (tgt := 79) E dX7_aboutNow_1 hx rfl (by decide) (by decide) rfl (by decide) ?_
    refine x_aload_n E dX7_aboutNow_79 rfl 0 rfl ?_
    refine x_iload_n E dX7_aboutNow_80 rfl 1 rfl ?_
    obtain ⟨r_6, w_7, hc, hm⟩ := bI_inv hm
    refine x_callV (As := [.int a1]) (rest := []) E my_X7_signsOf wG946 (c_X7_signsOf l D cs ad hc) rfl rfl rfl ⟨Nat.le_of_ble_eq_true rfl, Nat.le_of_ble_eq_true rfl⟩ (Nat.le_of_ble_eq_true rfl) dX7_aboutNow_81 ?_
    exact x_iretS E hm dX7_aboutNow_84
  refine x_split hm (fun hx hm => ?_) (fun hs4 hm => ?_)
  · refine x_tin (kv := (iI 4)) (tgt := 85) E dX7_aboutNow_1 hx rfl (by decide) (by decide) rfl (by decide) ?_
    refine x_aload_n E dX7_aboutNow_85 rfl 0 rfl ?_
    refine x_iload_n E dX7_aboutNow_86 rfl 1 rfl ?_
    obtain ⟨r_8, w_9, hc, hm⟩ := bI_inv hm
    refine x_callV (As := [.int a1]) (rest := []) E my_X7_weightOf wG950 (c_X7_weightOf l D cs ad hc) rfl rfl rfl ⟨Nat.le_of_ble_eq_true rfl, Nat.le_of_ble_eq_true rfl⟩ (Nat.le_of_ble_eq_true rfl) dX7_aboutNow_87 ?_
    exact x_iretS E hm dX7_aboutNow_90
  refine x_split hm (fun hx hm => ?_) (fun hs5 hm => ?_)
  · refine x_tin (kv := (iI 5)) (tgt := 91) E dX7_aboutNow_1 hx rfl (by decide) (by decide) rfl (by decide) ?_
    refine x_aload_n E dX7_aboutNow_91 rfl 0 rfl ?_
    refine x_iload_n E dX7_aboutNow_92 rfl 1 rfl ?_
    obtain ⟨r_10, w_11, hc, hm⟩ := bI_inv hm
    refine x_callV (As := [.int a1]) (rest := []) E my_X7_firstBad wG954 (c_X7_firstBad l D cs ad hc) rfl rfl rfl ⟨Nat.le_of_ble_eq_true rfl, Nat.le_of_ble_eq_true rfl⟩ (Nat.le_of_ble_eq_true rfl) dX7_aboutNow_93 ?_
    exact x_iretS E hm dX7_aboutNow_96
  refine x_split hm (fun hx hm => ?_) (fun hs6 hm => ?_)
  · refine x_tin (kv := (iI 6)) (tgt := 97) E dX7_aboutNow_1 hx rfl (by decide) (by decide) rfl (by decide) ?_
    refine x_aload_n E dX7_aboutNow_97 rfl 0 rfl ?_
    refine x_iload_n E dX7_aboutNow_98 rfl 1 rfl ?_
    obtain ⟨r_12, w_13, hc, hm⟩ := bI_inv hm
    refine x_callV (As := [.int a1]) (rest := []) E my_X7_sureAt wG958 (c_X7_sureAt l D cs ad hc) rfl rfl rfl ⟨Nat.le_of_ble_eq_true rfl, Nat.le_of_ble_eq_true rfl⟩ (Nat.le_of_ble_eq_true rfl) dX7_aboutNow_99 ?_
    exact x_iretS E hm dX7_aboutNow_102
  refine x_tout (tgt := 103) E dX7_aboutNow_1 (by have := lv_neT (a := 0) hs0 rfl; have := lv_neT (a := 1) hs1 rfl; have := lv_neT (a := 2) hs2 rfl; have := lv_neT (a := 3) hs3 rfl; have := lv_neT (a := 4) hs4 rfl; have := lv_neT (a := 5) hs5 rfl; have := lv_neT (a := 6) hs6 rfl; omega) (by decide) ?_
  refine x_aload_n E dX7_aboutNow_103 rfl 0 rfl ?_
  refine x_iload_n E dX7_aboutNow_104 rfl 1 rfl ?_
  obtain ⟨r_14, w_15, hc, hm⟩ := bI_inv hm
  refine x_callV (As := [.int a1]) (rest := []) E my_X7_rankOf wG1005 (c_X7_rankOf l D cs ad hc) rfl rfl rfl ⟨Nat.le_of_ble_eq_true rfl, Nat.le_of_ble_eq_true rfl⟩ (Nat.le_of_ble_eq_true rfl) dX7_aboutNow_105 ?_
  exact x_iretS E hm dX7_aboutNow_108
set_option maxRecDepth 100000 in
set_option maxHeartbeats 4000000 in
theorem c_X7_about (l : Launch) (D : va_G) (cs : vCs) (ad : Nat → Nat → Nat) {w : Wd} {a1 : Int32} {a2 : Int32} {r : Int32} {w' : Wd} (hm : X7_about w a1 a2 = some (r, w')) : Mc l yX7_about cX7_about 3 (some .int) 10 227 D cs ad [.ref (ad 12 0), .int a1, .int a2] w (some (.int r)) w' := by
  refine Mc.of (by decide) (Nat.le_of_ble_eq_true rfl) ?_
  intro p e s m args below meth c E
  replace E : EV p m c cX7_about 3 s args RX7 yX7_about (some .int) meth D cs ad := E
  unfold X7_about at hm
  refine x_aload_n E dX7_about_0 rfl 0 rfl ?_
  refine x_iload_n E dX7_about_1 rfl 1 rfl ?_
  refine x_callV (As := [.int a1]) (rest := []) E my_X7_isCode wG864 (c_X7_isCode l D cs ad rfl) rfl rfl rfl ⟨Nat.le_of_ble_eq_true rfl, Nat.le_of_ble_eq_true rfl⟩ (Nat.le_of_ble_eq_true rfl) dX7_about_2 ?_
  refine x_if_ne (tgt := 13) E dX7_about_5 (by decide) hm (fun _ hm => ?_) (fun _ hm => ?_)
  · refine x_iload_n E dX7_about_13 rfl 2 rfl ?_
    refine x_iconst (v := (iI 0)) E dX7_about_14 (by decide) ?_
    refine x_bipush (v := (iI 7)) E dX7_about_15 (by decide) ?_
    refine x_callS (As := [.int a2, .int (iI 0), .int (iI 7)]) (rest := []) E my_X7_within wG814 (c_X7_within l D cs ad rfl) rfl ⟨Nat.le_of_ble_eq_true rfl, Nat.le_of_ble_eq_true rfl⟩ (Nat.le_of_ble_eq_true rfl) dX7_about_17 ?_
    refine x_if_eq (tgt := 32) E dX7_about_20 (by decide) hm (fun _ hm => ?_) (fun _ hm => ?_)
    · refine x_bipush (v := (iI (-102))) E dX7_about_32 (by decide) ?_
      exact x_iretS E hm dX7_about_34
    · refine x_aload_n E dX7_about_23 rfl 0 rfl ?_
      refine x_iload_n E dX7_about_24 rfl 1 rfl ?_
      refine x_iload_n E dX7_about_25 rfl 2 rfl ?_
      obtain ⟨r_1, w_2, hc, hm⟩ := bI_inv hm
      refine x_callV (As := [.int a1, .int a2]) (rest := []) E my_X7_aboutNow wG906 (c_X7_aboutNow l D cs ad hc) rfl rfl rfl ⟨Nat.le_of_ble_eq_true rfl, Nat.le_of_ble_eq_true rfl⟩ (Nat.le_of_ble_eq_true rfl) dX7_about_26 ?_
      refine x_goto (tgt := 34) E dX7_about_29 (by decide) ?_
      exact x_iretS E hm dX7_about_34
  · refine x_bipush (v := (iI (-101))) E dX7_about_8 (by decide) ?_
    refine x_goto (tgt := 34) E dX7_about_10 (by decide) ?_
    exact x_iretS E hm dX7_about_34
set_option maxRecDepth 100000 in
set_option maxHeartbeats 4000000 in
theorem c_X7_aliveMany (l : Launch) (D : va_G) (cs : vCs) (ad : Nat → Nat → Nat) {w : Wd} {r : Int32} {w' : Wd} (hm : X7_aliveMany w = some (r, w')) : Mc l yX7_aliveMany cX7_aliveMany 3 (some .int) 6 136 D cs ad [.ref (ad 12 0)] w (some (.int r)) w' := by
  refine Mc.of (by decide) (Nat.le_of_ble_eq_true rfl) ?_
  intro p e s m args below meth c E
  replace E : EV p m c cX7_aliveMany 3 s args RX7 yX7_aliveMany (some .int) meth D cs ad := E
  have hL4 : ∀ (fuel : Nat) (b1 : Int32) (b2 : Int32) (w : Wd), X7_aliveMany_L4 fuel b1 b2 w = some (r, w') → XV p l e { frames := 6, cells := 0, slots := 0, locals := 136 } s m args below meth c 3 D cs ad (MQ below (xQ D cs ad (some (.int r)) w') args s 0 0 (xF ad)) 4 [(0, .ref (ad 12 0)), (1, .int b1), (2, .int b2)] [] w := by
    intro fuel
    induction fuel with
    | zero => intro b1 b2 w hm; cases hm
    | succ fuel ih =>
      intro b1 b2 w hm
      rw [X7_aliveMany_L4] at hm
      refine x_iload_n E dX7_aliveMany_4 rfl 2 rfl ?_
      refine x_aload_n E dX7_aliveMany_5 rfl 0 rfl ?_
      refine x_gf (v := .int (rd w 12 0 0)) E fr_X7_110 rfl rfl dX7_aliveMany_6 ?_
      refine x_icmp_ge (tgt := 34) E dX7_aliveMany_9 (by decide) hm (fun _ hm => ?_) (fun _ hm => ?_)
      · refine x_iload_n E dX7_aliveMany_34 rfl 1 rfl ?_
        exact x_iretS E hm dX7_aliveMany_35
      · refine x_iload_n E dX7_aliveMany_12 rfl 1 rfl ?_
        refine x_aload_n E dX7_aliveMany_13 rfl 0 rfl ?_
        refine x_iload_n E dX7_aliveMany_14 rfl 2 rfl ?_
        obtain ⟨r_1, w_2, hc, hm⟩ := bI_inv hm
        refine x_callV (As := [.int b2]) (rest := [.int b1]) E my_X7_isAlive wG910 (c_X7_isAlive l D cs ad hc) rfl rfl rfl ⟨Nat.le_of_ble_eq_true rfl, Nat.le_of_ble_eq_true rfl⟩ (Nat.le_of_ble_eq_true rfl) dX7_aliveMany_15 ?_
        refine x_if_eq (tgt := 25) E dX7_aliveMany_18 (by decide) hm (fun _ hm => ?_) (fun _ hm => ?_)
        · refine x_iconst (v := (iI 0)) E dX7_aliveMany_25 (by decide) ?_
          refine x_iadd E dX7_aliveMany_26 ?_
          refine x_bI hm (fun x_3 hm => ?_)
          refine x_istore_n (lv' := [(1, .int x_3), (0, .ref (ad 12 0)), (2, .int b2)]) E dX7_aliveMany_27 rfl (by decide) rfl ?_
          refine x_iincB (lv' := fun x_4 => [(2, .int x_4), (1, .int x_3), (0, .ref (ad 12 0))]) (j := 2) E dX7_aliveMany_28 rfl rfl (by decide) (fun _ => rfl) hm (fun x_4 hm => ?_)
          refine x_goto (tgt := 4) E dX7_aliveMany_31 (by decide) ?_
          exact x_weak [2, 1, 0] rfl ((ih) x_3 x_4 w_2 hm)
        · refine x_iconst (v := (iI 1)) E dX7_aliveMany_21 (by decide) ?_
          refine x_goto (tgt := 26) E dX7_aliveMany_22 (by decide) ?_
          refine x_iadd E dX7_aliveMany_26 ?_
          refine x_bI hm (fun x_5 hm => ?_)
          refine x_istore_n (lv' := [(1, .int x_5), (0, .ref (ad 12 0)), (2, .int b2)]) E dX7_aliveMany_27 rfl (by decide) rfl ?_
          refine x_iincB (lv' := fun x_6 => [(2, .int x_6), (1, .int x_5), (0, .ref (ad 12 0))]) (j := 2) E dX7_aliveMany_28 rfl rfl (by decide) (fun _ => rfl) hm (fun x_6 hm => ?_)
          refine x_goto (tgt := 4) E dX7_aliveMany_31 (by decide) ?_
          exact x_weak [2, 1, 0] rfl ((ih) x_5 x_6 w_2 hm)
  unfold X7_aliveMany at hm
  refine x_iconst (v := (iI 0)) E dX7_aliveMany_0 (by decide) ?_
  refine x_istore_n (lv' := [(1, .int (iI 0)), (0, .ref (ad 12 0))]) E dX7_aliveMany_1 rfl (by decide) rfl ?_
  refine x_iconst (v := (iI 0)) E dX7_aliveMany_2 (by decide) ?_
  refine x_istore_n (lv' := [(2, .int (iI 0)), (1, .int (iI 0)), (0, .ref (ad 12 0))]) E dX7_aliveMany_3 rfl (by decide) rfl ?_
  exact x_weak [2, 1, 0] rfl ((hL4 1000) (iI 0) (iI 0) w hm)
set_option maxRecDepth 100000 in
set_option maxHeartbeats 4000000 in
theorem c_X7_isBoth (l : Launch) (D : va_G) (cs : vCs) (ad : Nat → Nat → Nat) {w : Wd} {a1 : Int32} {a2 : Int32} {a3 : Int32} {r : Int32} (hm : X7_isBoth w a1 a2 a3 = some r) : Mc l yX7_isBoth cX7_isBoth 4 (some .boolean) 1 21 D cs ad [.ref (ad 12 0), .int a1, .int a2, .int a3] w (some (.int r)) w := by
  refine Mc.of (by decide) (Nat.le_of_ble_eq_true rfl) ?_
  intro p e s m args below meth c E
  replace E : EV p m c cX7_isBoth 4 s args RX7 yX7_isBoth (some .boolean) meth D cs ad := E
  unfold X7_isBoth at hm
  refine x_aload_n E dX7_isBoth_0 rfl 0 rfl ?_
  refine x_gf (v := .ref (ad 12 1)) E fr_X7_7 rfl rfl dX7_isBoth_1 ?_
  refine x_iload_n E dX7_isBoth_4 rfl 1 rfl ?_
  refine x_iald E rfl rfl (by decide) dX7_isBoth_5 hm (fun x_1 hm => ?_)
  refine x_iload_n E dX7_isBoth_6 rfl 3 rfl ?_
  refine x_bipush (v := (iI 6)) E dX7_isBoth_7 (by decide) ?_
  refine x_idiv E dX7_isBoth_9 (by decide) ?_
  refine x_callS (As := [.int x_1, .int (a3 / (iI 6))]) (rest := []) E my_X7_isState wG970 (c_X7_isState l D cs ad rfl) rfl ⟨Nat.le_of_ble_eq_true rfl, Nat.le_of_ble_eq_true rfl⟩ (Nat.le_of_ble_eq_true rfl) dX7_isBoth_10 ?_
  refine x_if_eq (tgt := 44) E dX7_isBoth_13 (by decide) hm (fun _ hm => ?_) (fun _ hm => ?_)
  · refine x_iconst (v := (iI 0)) E dX7_isBoth_44 (by decide) ?_
    exact x_zretP E rfl hm dX7_isBoth_45
  · refine x_iload_n E dX7_isBoth_16 rfl 3 rfl ?_
    refine x_bipush (v := (iI 6)) E dX7_isBoth_17 (by decide) ?_
    refine x_irem E dX7_isBoth_19 (by decide) ?_
    refine x_iconst (v := (iI 5)) E dX7_isBoth_20 (by decide) ?_
    refine x_icmp_eq (tgt := 40) E dX7_isBoth_21 (by decide) hm (fun _ hm => ?_) (fun _ hm => ?_)
    · refine x_iconst (v := (iI 1)) E dX7_isBoth_40 (by decide) ?_
      refine x_goto (tgt := 45) E dX7_isBoth_41 (by decide) ?_
      exact x_zretP E rfl hm dX7_isBoth_45
    · refine x_aload_n E dX7_isBoth_24 rfl 0 rfl ?_
      refine x_gf (v := .ref (ad 12 1)) E fr_X7_7 rfl rfl dX7_isBoth_25 ?_
      refine x_iload_n E dX7_isBoth_28 rfl 2 rfl ?_
      refine x_iald E rfl rfl (by decide) dX7_isBoth_29 hm (fun x_2 hm => ?_)
      refine x_iload_n E dX7_isBoth_30 rfl 3 rfl ?_
      refine x_bipush (v := (iI 6)) E dX7_isBoth_31 (by decide) ?_
      refine x_irem E dX7_isBoth_33 (by decide) ?_
      refine x_callS (As := [.int x_2, .int (irm a3 (iI 6))]) (rest := []) E my_X7_isState wG970 (c_X7_isState l D cs ad rfl) rfl ⟨Nat.le_of_ble_eq_true rfl, Nat.le_of_ble_eq_true rfl⟩ (Nat.le_of_ble_eq_true rfl) dX7_isBoth_34 ?_
      refine x_if_eq (tgt := 44) E dX7_isBoth_37 (by decide) hm (fun _ hm => ?_) (fun _ hm => ?_)
      · refine x_iconst (v := (iI 0)) E dX7_isBoth_44 (by decide) ?_
        exact x_zretP E rfl hm dX7_isBoth_45
      · refine x_iconst (v := (iI 1)) E dX7_isBoth_40 (by decide) ?_
        refine x_goto (tgt := 45) E dX7_isBoth_41 (by decide) ?_
        exact x_zretP E rfl hm dX7_isBoth_45
set_option maxRecDepth 100000 in
set_option maxHeartbeats 4000000 in
theorem c_X7_bothBehind (l : Launch) (D : va_G) (cs : vCs) (ad : Nat → Nat → Nat) {w : Wd} {a1 : Int32} {a2 : Int32} {a3 : Int32} {a4 : Int32} {r : Int32} {w' : Wd} (hm : X7_bothBehind w a1 a2 a3 a4 = some (r, w')) : Mc l yX7_bothBehind cX7_bothBehind 7 (some .int) 3 69 D cs ad [.ref (ad 12 0), .int a1, .int a2, .int a3, .int a4] w (some (.int r)) w' := by
  refine Mc.of (by decide) (Nat.le_of_ble_eq_true rfl) ?_
  intro p e s m args below meth c E
  replace E : EV p m c cX7_bothBehind 7 s args RX7 yX7_bothBehind (some .int) meth D cs ad := E
  unfold X7_bothBehind at hm
  refine x_aload_n E dX7_bothBehind_0 rfl 0 rfl ?_
  refine x_iload_n E dX7_bothBehind_1 rfl 1 rfl ?_
  refine x_iload_n E dX7_bothBehind_2 rfl 3 rfl ?_
  refine x_bipush (v := (iI 6)) E dX7_bothBehind_3 (by decide) ?_
  refine x_idiv E dX7_bothBehind_5 (by decide) ?_
  refine x_iload E dX7_bothBehind_6 4 rfl ?_
  obtain ⟨r_1, w_2, hc, hm⟩ := bI_inv hm
  refine x_callV (As := [.int a1, .int (a3 / (iI 6)), .int a4]) (rest := []) E my_X7_step wG926 (c_X7_step l D cs ad hc) rfl rfl rfl ⟨Nat.le_of_ble_eq_true rfl, Nat.le_of_ble_eq_true rfl⟩ (Nat.le_of_ble_eq_true rfl) dX7_bothBehind_8 ?_
  refine x_istore (lv' := [(5, .int r_1), (0, .ref (ad 12 0)), (1, .int a1), (2, .int a2), (3, .int a3), (4, .int a4)]) E dX7_bothBehind_11 (by decide) rfl ?_
  refine x_iload E dX7_bothBehind_13 0 rfl ?_
  refine x_iconst (v := (iI (-1))) E dX7_bothBehind_15 (by decide) ?_
  refine x_icmp_ne (tgt := 21) E dX7_bothBehind_16 (by decide) hm (fun _ hm => ?_) (fun _ hm => ?_)
  · refine x_iload_n E dX7_bothBehind_21 rfl 4 rfl ?_
    refine x_bipush (v := (iI 6)) E dX7_bothBehind_22 (by decide) ?_
    refine x_irem E dX7_bothBehind_24 (by decide) ?_
    refine x_iconst (v := (iI 5)) E dX7_bothBehind_25 (by decide) ?_
    refine x_icmp_ne (tgt := 33) E dX7_bothBehind_26 (by decide) hm (fun _ hm => ?_) (fun _ hm => ?_)
    · refine x_aload_n E dX7_bothBehind_33 rfl 1 rfl ?_
      refine x_iload_n E dX7_bothBehind_34 rfl 3 rfl ?_
      refine x_iload_n E dX7_bothBehind_35 rfl 4 rfl ?_
      refine x_bipush (v := (iI 6)) E dX7_bothBehind_36 (by decide) ?_
      refine x_irem E dX7_bothBehind_38 (by decide) ?_
      refine x_iload E dX7_bothBehind_39 5 rfl ?_
      obtain ⟨r_3, w_4, hc, hm⟩ := bI_inv hm
      refine x_callV (As := [.int a2, .int (irm a3 (iI 6)), .int a4]) (rest := []) E my_X7_step wG926 (c_X7_step l D cs ad hc) rfl rfl rfl ⟨Nat.le_of_ble_eq_true rfl, Nat.le_of_ble_eq_true rfl⟩ (Nat.le_of_ble_eq_true rfl) dX7_bothBehind_41 ?_
      refine x_istore (lv' := [(6, .int r_3), (5, .int r_1), (0, .ref (ad 12 0)), (1, .int a1), (2, .int a2), (3, .int a3), (4, .int a4)]) E dX7_bothBehind_44 (by decide) rfl ?_
      refine x_bipush (v := (iI 6)) E dX7_bothBehind_46 (by decide) ?_
      refine x_iload E dX7_bothBehind_48 1 rfl ?_
      refine x_imul E dX7_bothBehind_50 ?_
      refine x_iload E dX7_bothBehind_51 0 rfl ?_
      refine x_iconst (v := (iI (-1))) E dX7_bothBehind_53 (by decide) ?_
      refine x_icmp_ne (tgt := 61) E dX7_bothBehind_54 (by decide) hm (fun _ hm => ?_) (fun _ hm => ?_)
      · refine x_iload E dX7_bothBehind_61 0 rfl ?_
        refine x_iadd E dX7_bothBehind_63 ?_
        exact x_iretS E hm dX7_bothBehind_64
      · refine x_iconst (v := (iI 5)) E dX7_bothBehind_57 (by decide) ?_
        refine x_goto (tgt := 63) E dX7_bothBehind_58 (by decide) ?_
        refine x_iadd E dX7_bothBehind_63 ?_
        exact x_iretS E hm dX7_bothBehind_64
    · refine x_iconst (v := (iI (-1))) E dX7_bothBehind_29 (by decide) ?_
      refine x_goto (tgt := 44) E dX7_bothBehind_30 (by decide) ?_
      refine x_istore (lv' := [(6, .int (iI (-1))), (5, .int r_1), (0, .ref (ad 12 0)), (1, .int a1), (2, .int a2), (3, .int a3), (4, .int a4)]) E dX7_bothBehind_44 (by decide) rfl ?_
      refine x_bipush (v := (iI 6)) E dX7_bothBehind_46 (by decide) ?_
      refine x_iload E dX7_bothBehind_48 1 rfl ?_
      refine x_imul E dX7_bothBehind_50 ?_
      refine x_iload E dX7_bothBehind_51 0 rfl ?_
      refine x_iconst (v := (iI (-1))) E dX7_bothBehind_53 (by decide) ?_
      refine x_icmp_ne (tgt := 61) E dX7_bothBehind_54 (by decide) hm (fun _ hm => ?_) (fun _ hm => ?_)
      · refine x_iload E dX7_bothBehind_61 0 rfl ?_
        refine x_iadd E dX7_bothBehind_63 ?_
        exact x_iretS E hm dX7_bothBehind_64
      · refine x_iconst (v := (iI 5)) E dX7_bothBehind_57 (by decide) ?_
        refine x_goto (tgt := 63) E dX7_bothBehind_58 (by decide) ?_
        refine x_iadd E dX7_bothBehind_63 ?_
        exact x_iretS E hm dX7_bothBehind_64
  · refine x_iconst (v := (iI (-1))) E dX7_bothBehind_19 (by decide) ?_
    exact x_iretS E hm dX7_bothBehind_20
set_option maxRecDepth 100000 in
set_option maxHeartbeats 4000000 in
theorem c_X7_goesTo (l : Launch) (D : va_G) (cs : vCs) (ad : Nat → Nat → Nat) {w : Wd} {a1 : Int32} {a2 : Int32} {a3 : Int32} {a4 : Int32} {r : Int32} {w' : Wd} (hm : X7_goesTo w a1 a2 a3 a4 = some (r, w')) : Mc l yX7_goesTo cX7_goesTo 8 (some .boolean) 4 95 D cs ad [.ref (ad 12 0), .int a1, .int a2, .int a3, .int a4] w (some (.int r)) w' := by
  refine Mc.of (by decide) (Nat.le_of_ble_eq_true rfl) ?_
  intro p e s m args below meth c E
  replace E : EV p m c cX7_goesTo 8 s args RX7 yX7_goesTo (some .boolean) meth D cs ad := E
  have hL6 : ∀ (fuel : Nat) (b1 : Int32) (b2 : Int32) (b3 : Int32) (b4 : Int32) (b5 : Int32) (b6 : Int32) (w : Wd), X7_goesTo_L6 fuel b1 b2 b3 b4 b5 b6 w = some (r, w') → XV p l e { frames := 4, cells := 0, slots := 0, locals := 95 } s m args below meth c 8 D cs ad (MQ below (xQ D cs ad (some (.int r)) w') args s 0 0 (xF ad)) 6 [(0, .ref (ad 12 0)), (1, .int b1), (2, .int b2), (3, .int b3), (4, .int b4), (5, .int b5), (6, .int b6)] [] w := by
    intro fuel
    induction fuel with
    | zero => intro b1 b2 b3 b4 b5 b6 w hm; cases hm
    | succ fuel ih =>
      intro b1 b2 b3 b4 b5 b6 w hm
      rw [X7_goesTo_L6] at hm
      refine x_iload E dX7_goesTo_6 6 rfl ?_
      refine x_bipush (v := (iI 8)) E dX7_goesTo_8 (by decide) ?_
      refine x_icmp_ge (tgt := 59) E dX7_goesTo_10 (by decide) hm (fun _ hm => ?_) (fun _ hm => ?_)
      · refine x_iload E dX7_goesTo_59 5 rfl ?_
        obtain ⟨hz, hm⟩ := zb_inv hm
        exact x_zretS E (isB_nar hz) hm dX7_goesTo_61
      · refine x_iload E dX7_goesTo_13 5 rfl ?_
        refine x_if_ne (tgt := 59) E dX7_goesTo_15 (by decide) hm (fun _ hm => ?_) (fun _ hm => ?_)
        · refine x_iload E dX7_goesTo_59 5 rfl ?_
          obtain ⟨hz, hm⟩ := zb_inv hm
          exact x_zretS E (isB_nar hz) hm dX7_goesTo_61
        · refine x_aload_n E dX7_goesTo_18 rfl 0 rfl ?_
          refine x_iload_n E dX7_goesTo_19 rfl 1 rfl ?_
          refine x_iload_n E dX7_goesTo_20 rfl 2 rfl ?_
          refine x_iload_n E dX7_goesTo_21 rfl 3 rfl ?_
          refine x_iload E dX7_goesTo_22 6 rfl ?_
          obtain ⟨r_1, w_2, hc, hm⟩ := bI_inv hm
          refine x_callV (As := [.int b1, .int b2, .int b3, .int b6]) (rest := []) E my_X7_bothBehind wG1073 (c_X7_bothBehind l D cs ad hc) rfl rfl rfl ⟨Nat.le_of_ble_eq_true rfl, Nat.le_of_ble_eq_true rfl⟩ (Nat.le_of_ble_eq_true rfl) dX7_goesTo_24 ?_
          refine x_istore (lv' := [(7, .int r_1), (0, .ref (ad 12 0)), (1, .int b1), (2, .int b2), (3, .int b3), (4, .int b4), (5, .int b5), (6, .int b6)]) E dX7_goesTo_27 (by decide) rfl ?_
          refine x_iload E dX7_goesTo_29 0 rfl ?_
          refine x_iconst (v := (iI (-1))) E dX7_goesTo_31 (by decide) ?_
          refine x_icmp_eq (tgt := 50) E dX7_goesTo_32 (by decide) hm (fun _ hm => ?_) (fun _ hm => ?_)
          · refine x_iconst (v := (iI 0)) E dX7_goesTo_50 (by decide) ?_
            refine x_istore (lv' := [(5, .int (iI 0)), (7, .int r_1), (0, .ref (ad 12 0)), (1, .int b1), (2, .int b2), (3, .int b3), (4, .int b4), (6, .int b6)]) E dX7_goesTo_51 (by decide) rfl ?_
            refine x_iincB (lv' := fun x_3 => [(6, .int x_3), (5, .int (iI 0)), (7, .int r_1), (0, .ref (ad 12 0)), (1, .int b1), (2, .int b2), (3, .int b3), (4, .int b4)]) (j := 7) E dX7_goesTo_53 rfl rfl (by decide) (fun _ => rfl) hm (fun x_3 hm => ?_)
            refine x_goto (tgt := 6) E dX7_goesTo_56 (by decide) ?_
            exact x_weak [3, 4, 5, 6, 7, 1, 0] rfl ((ih) b1 b2 b3 b4 (iI 0) x_3 w_2 hm)
          · refine x_iload E dX7_goesTo_35 5 rfl ?_
            refine x_iload E dX7_goesTo_37 0 rfl ?_
            refine x_ishr E dX7_goesTo_39 ?_
            refine x_iconst (v := (iI 1)) E dX7_goesTo_40 (by decide) ?_
            refine x_iand E dX7_goesTo_41 ?_
            refine x_iconst (v := (iI 1)) E dX7_goesTo_42 (by decide) ?_
            refine x_icmp_ne (tgt := 50) E dX7_goesTo_43 (by decide) hm (fun _ hm => ?_) (fun _ hm => ?_)
            · refine x_iconst (v := (iI 0)) E dX7_goesTo_50 (by decide) ?_
              refine x_istore (lv' := [(5, .int (iI 0)), (7, .int r_1), (0, .ref (ad 12 0)), (1, .int b1), (2, .int b2), (3, .int b3), (4, .int b4), (6, .int b6)]) E dX7_goesTo_51 (by decide) rfl ?_
              refine x_iincB (lv' := fun x_4 => [(6, .int x_4), (5, .int (iI 0)), (7, .int r_1), (0, .ref (ad 12 0)), (1, .int b1), (2, .int b2), (3, .int b3), (4, .int b4)]) (j := 7) E dX7_goesTo_53 rfl rfl (by decide) (fun _ => rfl) hm (fun x_4 hm => ?_)
              refine x_goto (tgt := 6) E dX7_goesTo_56 (by decide) ?_
              exact x_weak [3, 4, 5, 6, 7, 1, 0] rfl ((ih) b1 b2 b3 b4 (iI 0) x_4 w_2 hm)
            · refine x_iconst (v := (iI 1)) E dX7_goesTo_46 (by decide) ?_
              refine x_goto (tgt := 51) E dX7_goesTo_47 (by decide) ?_
              refine x_istore (lv' := [(5, .int (iI 1)), (7, .int r_1), (0, .ref (ad 12 0)), (1, .int b1), (2, .int b2), (3, .int b3), (4, .int b4), (6, .int b6)]) E dX7_goesTo_51 (by decide) rfl ?_
              refine x_iincB (lv' := fun x_5 => [(6, .int x_5), (5, .int (iI 1)), (7, .int r_1), (0, .ref (ad 12 0)), (1, .int b1), (2, .int b2), (3, .int b3), (4, .int b4)]) (j := 7) E dX7_goesTo_53 rfl rfl (by decide) (fun _ => rfl) hm (fun x_5 hm => ?_)
              refine x_goto (tgt := 6) E dX7_goesTo_56 (by decide) ?_
              exact x_weak [3, 4, 5, 6, 7, 1, 0] rfl ((ih) b1 b2 b3 b4 (iI 1) x_5 w_2 hm)
  unfold X7_goesTo at hm
  refine x_iconst (v := (iI 0)) E dX7_goesTo_0 (by decide) ?_
  refine x_istore (lv' := [(5, .int (iI 0)), (0, .ref (ad 12 0)), (1, .int a1), (2, .int a2), (3, .int a3), (4, .int a4)]) E dX7_goesTo_1 (by decide) rfl ?_
  refine x_iconst (v := (iI 0)) E dX7_goesTo_3 (by decide) ?_
  refine x_istore (lv' := [(6, .int (iI 0)), (5, .int (iI 0)), (0, .ref (ad 12 0)), (1, .int a1), (2, .int a2), (3, .int a3), (4, .int a4)]) E dX7_goesTo_4 (by decide) rfl ?_
  exact x_weak [2, 3, 4, 5, 6, 1, 0] rfl ((hL6 1000) a1 a2 a3 a4 (iI 0) (iI 0) w hm)
set_option maxRecDepth 100000 in
set_option maxHeartbeats 4000000 in
theorem c_X7_layParts (l : Launch) (D : va_G) (cs : vCs) (ad : Nat → Nat → Nat) {w : Wd} {a1 : Int32} {a2 : Int32} {w' : Wd} (hm : X7_layParts w a1 a2 = some w') : Mc l yX7_layParts cX7_layParts 6 none 5 122 D cs ad [.ref (ad 12 0), .int a1, .int a2] w none w' := by
  refine Mc.of (by decide) (Nat.le_of_ble_eq_true rfl) ?_
  intro p e s m args below meth c E
  replace E : EV p m c cX7_layParts 6 s args RX7 yX7_layParts none meth D cs ad := E
  have hL9 : ∀ (fuel : Nat) (k32 : Int32 → Int32 → Wd → Option Wd) (hk32 : ∀ (b1 : Int32) (b2 : Int32) (w : Wd), k32 b1 b2 w = some w' → XV p l e { frames := 5, cells := 0, slots := 0, locals := 122 } s m args below meth c 6 D cs ad (MQ below (xQ D cs ad none w') args s 0 0 (xF ad)) 32 [(0, .ref (ad 12 0)), (1, .int b1), (2, .int b2)] [] w) (b1 : Int32) (b2 : Int32) (b3 : Int32) (w : Wd), X7_layParts_L9 fuel k32 b1 b2 b3 w = some w' → XV p l e { frames := 5, cells := 0, slots := 0, locals := 122 } s m args below meth c 6 D cs ad (MQ below (xQ D cs ad none w') args s 0 0 (xF ad)) 9 [(0, .ref (ad 12 0)), (1, .int b1), (2, .int b2), (3, .int b3)] [] w := by
    intro fuel
    induction fuel with
    | zero => intro k32 hk32 b1 b2 b3 w hm; cases hm
    | succ fuel ih =>
      intro k32 hk32 b1 b2 b3 w hm
      rw [X7_layParts_L9] at hm
      refine x_iload_n E dX7_layParts_9 rfl 3 rfl ?_
      refine x_iconst (v := (iI 5)) E dX7_layParts_10 (by decide) ?_
      refine x_icmp_gt (tgt := 32) E dX7_layParts_11 (by decide) hm (fun _ hm => ?_) (fun _ hm => ?_)
      · exact x_weak [0, 1, 2] rfl (hk32 b1 b2 w hm)
      · refine x_aload_n E dX7_layParts_14 rfl 0 rfl ?_
        refine x_gf (v := .ref (ad 12 15)) E fr_X7_57 rfl rfl dX7_layParts_15 ?_
        refine x_iconst (v := (iI 0)) E dX7_layParts_18 (by decide) ?_
        refine x_dup2 E dX7_layParts_19 rfl rfl ?_
        refine x_iald E rfl rfl (by decide) dX7_layParts_20 hm (fun x_2 hm => ?_)
        refine x_iconst (v := (iI 1)) E dX7_layParts_21 (by decide) ?_
        refine x_iload_n E dX7_layParts_22 rfl 3 rfl ?_
        refine x_ishl E dX7_layParts_23 ?_
        refine x_ior E dX7_layParts_24 ?_
        refine x_iast E rfl rfl (by decide) dX7_layParts_25 hm (fun w_3 hm => ?_)
        refine x_iincB (lv' := fun x_4 => [(3, .int x_4), (0, .ref (ad 12 0)), (1, .int b1), (2, .int b2)]) (j := 3) E dX7_layParts_26 rfl rfl (by decide) (fun _ => rfl) hm (fun x_4 hm => ?_)
        refine x_goto (tgt := 9) E dX7_layParts_29 (by decide) ?_
        exact x_weak [1, 2, 3, 0] rfl ((ih _ hk32) b1 b2 x_4 w_3 hm)
  have hL92 : ∀ (k50 : Int32 → Int32 → Int32 → Int32 → Wd → Option Wd) (hk50 : ∀ (b1 : Int32) (b2 : Int32) (b3 : Int32) (b4 : Int32) (w : Wd), k50 b1 b2 b3 b4 w = some w' → XV p l e { frames := 5, cells := 0, slots := 0, locals := 122 } s m args below meth c 6 D cs ad (MQ below (xQ D cs ad none w') args s 0 0 (xF ad)) 50 [(0, .ref (ad 12 0)), (1, .int b1), (2, .int b2), (3, .int b3), (4, .int b4)] [] w) (b1 : Int32) (b2 : Int32) (b3 : Int32) (b4 : Int32) (t0 : Int32) (w : Wd), X7_layParts_L92 k50 b1 b2 b3 b4 t0 w = some w' → XV p l e { frames := 5, cells := 0, slots := 0, locals := 122 } s m args below meth c 6 D cs ad (MQ below (xQ D cs ad none w') args s 0 0 (xF ad)) 92 [(0, .ref (ad 12 0)), (1, .int b1), (2, .int b2), (3, .int b3), (4, .int b4)] [.int t0] w := by
    intro k50 hk50 b1 b2 b3 b4 t0 w hm
    unfold X7_layParts_L92 at hm
    refine x_istore (lv' := [(5, .int t0), (0, .ref (ad 12 0)), (1, .int b1), (2, .int b2), (3, .int b3), (4, .int b4)]) E dX7_layParts_92 (by decide) rfl ?_
    refine x_aload_n E dX7_layParts_94 rfl 1 rfl ?_
    refine x_gf (v := .ref (ad 12 15)) E fr_X7_57 rfl rfl dX7_layParts_95 ?_
    refine x_iload_n E dX7_layParts_98 rfl 4 rfl ?_
    refine x_dup2 E dX7_layParts_99 rfl rfl ?_
    refine x_iald E rfl rfl (by decide) dX7_layParts_100 hm (fun x_11 hm => ?_)
    refine x_iload E dX7_layParts_101 0 rfl ?_
    refine x_if_eq (tgt := 113) E dX7_layParts_103 (by decide) hm (fun _ hm => ?_) (fun _ hm => ?_)
    · refine x_iconst (v := (iI 0)) E dX7_layParts_113 (by decide) ?_
      refine x_ior E dX7_layParts_114 ?_
      refine x_iast E rfl rfl (by decide) dX7_layParts_115 hm (fun w_12 hm => ?_)
      refine x_iincB (lv' := fun x_13 => [(4, .int x_13), (5, .int t0), (0, .ref (ad 12 0)), (1, .int b1), (2, .int b2), (3, .int b3)]) (j := 5) E dX7_layParts_116 rfl rfl (by decide) (fun _ => rfl) hm (fun x_13 hm => ?_)
      refine x_goto (tgt := 50) E dX7_layParts_119 (by decide) ?_
      exact x_weak [2, 3, 4, 5, 0] rfl (hk50 b1 b2 b3 x_13 w_12 hm)
    · refine x_iconst (v := (iI 1)) E dX7_layParts_106 (by decide) ?_
      refine x_iload E dX7_layParts_107 5 rfl ?_
      refine x_ishl E dX7_layParts_109 ?_
      refine x_goto (tgt := 114) E dX7_layParts_110 (by decide) ?_
      refine x_ior E dX7_layParts_114 ?_
      refine x_iast E rfl rfl (by decide) dX7_layParts_115 hm (fun w_14 hm => ?_)
      refine x_iincB (lv' := fun x_15 => [(4, .int x_15), (5, .int t0), (0, .ref (ad 12 0)), (1, .int b1), (2, .int b2), (3, .int b3)]) (j := 5) E dX7_layParts_116 rfl rfl (by decide) (fun _ => rfl) hm (fun x_15 hm => ?_)
      refine x_goto (tgt := 50) E dX7_layParts_119 (by decide) ?_
      exact x_weak [2, 3, 4, 5, 0] rfl (hk50 b1 b2 b3 x_15 w_14 hm)
  have hL50 : ∀ (fuel : Nat) (k122 : Int32 → Int32 → Int32 → Wd → Option Wd) (hk122 : ∀ (b1 : Int32) (b2 : Int32) (b3 : Int32) (w : Wd), k122 b1 b2 b3 w = some w' → XV p l e { frames := 5, cells := 0, slots := 0, locals := 122 } s m args below meth c 6 D cs ad (MQ below (xQ D cs ad none w') args s 0 0 (xF ad)) 122 [(0, .ref (ad 12 0)), (1, .int b1), (2, .int b2), (3, .int b3)] [] w) (b1 : Int32) (b2 : Int32) (b3 : Int32) (b4 : Int32) (w : Wd), X7_layParts_L50 fuel k122 b1 b2 b3 b4 w = some w' → XV p l e { frames := 5, cells := 0, slots := 0, locals := 122 } s m args below meth c 6 D cs ad (MQ below (xQ D cs ad none w') args s 0 0 (xF ad)) 50 [(0, .ref (ad 12 0)), (1, .int b1), (2, .int b2), (3, .int b3), (4, .int b4)] [] w := by
    intro fuel
    induction fuel with
    | zero => intro k122 hk122 b1 b2 b3 b4 w hm; cases hm
    | succ fuel ih =>
      intro k122 hk122 b1 b2 b3 b4 w hm
      rw [X7_layParts_L50] at hm
      refine x_iload E dX7_layParts_50 4 rfl ?_
      refine x_bipush (v := (iI 30)) E dX7_layParts_52 (by decide) ?_
      refine x_icmp_ge (tgt := 122) E dX7_layParts_54 (by decide) hm (fun _ hm => ?_) (fun _ hm => ?_)
      · exact x_weak [0, 1, 2, 3] rfl (hk122 b1 b2 b3 w hm)
      · refine x_aload_n E dX7_layParts_57 rfl 0 rfl ?_
        refine x_iload_n E dX7_layParts_58 rfl 1 rfl ?_
        refine x_iload_n E dX7_layParts_59 rfl 2 rfl ?_
        refine x_iload E dX7_layParts_60 4 rfl ?_
        obtain ⟨r_6, hc, hm⟩ := ob_inv hm
        refine x_callV (As := [.int b1, .int b2, .int b4]) (rest := []) E my_X7_isBoth wG1065 (c_X7_isBoth l D cs ad hc) rfl rfl rfl ⟨Nat.le_of_ble_eq_true rfl, Nat.le_of_ble_eq_true rfl⟩ (Nat.le_of_ble_eq_true rfl) dX7_layParts_62 ?_
        refine x_if_eq (tgt := 91) E dX7_layParts_65 (by decide) hm (fun _ hm => ?_) (fun _ hm => ?_)
        · refine x_iconst (v := (iI 0)) E dX7_layParts_91 (by decide) ?_
          exact (hL92 _ (ih _ hk122)) b1 b2 b3 b4 (iI 0) w hm
        · refine x_aload_n E dX7_layParts_68 rfl 0 rfl ?_
          refine x_iload_n E dX7_layParts_69 rfl 1 rfl ?_
          refine x_iload_n E dX7_layParts_70 rfl 2 rfl ?_
          refine x_iload E dX7_layParts_71 4 rfl ?_
          refine x_aload_n E dX7_layParts_73 rfl 0 rfl ?_
          refine x_gf (v := .ref (ad 12 15)) E fr_X7_57 rfl rfl dX7_layParts_74 ?_
          refine x_iload_n E dX7_layParts_77 rfl 3 rfl ?_
          refine x_iconst (v := (iI 1)) E dX7_layParts_78 (by decide) ?_
          refine x_isub E dX7_layParts_79 ?_
          refine x_iald E rfl rfl (by decide) dX7_layParts_80 hm (fun x_7 hm => ?_)
          obtain ⟨r_8, w_9, hc, hm⟩ := bI_inv hm
          refine x_callV (As := [.int b1, .int b2, .int b4, .int x_7]) (rest := []) E my_X7_goesTo wG1069 (c_X7_goesTo l D cs ad hc) rfl rfl rfl ⟨Nat.le_of_ble_eq_true rfl, Nat.le_of_ble_eq_true rfl⟩ (Nat.le_of_ble_eq_true rfl) dX7_layParts_81 ?_
          refine x_if_eq (tgt := 91) E dX7_layParts_84 (by decide) hm (fun _ hm => ?_) (fun _ hm => ?_)
          · refine x_iconst (v := (iI 0)) E dX7_layParts_91 (by decide) ?_
            exact (hL92 _ (ih _ hk122)) b1 b2 b3 b4 (iI 0) w_9 hm
          · refine x_iconst (v := (iI 1)) E dX7_layParts_87 (by decide) ?_
            refine x_goto (tgt := 92) E dX7_layParts_88 (by decide) ?_
            exact (hL92 _ (ih _ hk122)) b1 b2 b3 b4 (iI 1) w_9 hm
  have hL122 : ∀ (k34 : Int32 → Int32 → Int32 → Wd → Option Wd) (hk34 : ∀ (b1 : Int32) (b2 : Int32) (b3 : Int32) (w : Wd), k34 b1 b2 b3 w = some w' → XV p l e { frames := 5, cells := 0, slots := 0, locals := 122 } s m args below meth c 6 D cs ad (MQ below (xQ D cs ad none w') args s 0 0 (xF ad)) 34 [(0, .ref (ad 12 0)), (1, .int b1), (2, .int b2), (3, .int b3)] [] w) (b1 : Int32) (b2 : Int32) (b3 : Int32) (w : Wd), X7_layParts_L122 k34 b1 b2 b3 w = some w' → XV p l e { frames := 5, cells := 0, slots := 0, locals := 122 } s m args below meth c 6 D cs ad (MQ below (xQ D cs ad none w') args s 0 0 (xF ad)) 122 [(0, .ref (ad 12 0)), (1, .int b1), (2, .int b2), (3, .int b3)] [] w := by
    intro k34 hk34 b1 b2 b3 w hm
    unfold X7_layParts_L122 at hm
    refine x_iincB (lv' := fun x_10 => [(3, .int x_10), (0, .ref (ad 12 0)), (1, .int b1), (2, .int b2)]) (j := 3) E dX7_layParts_122 rfl rfl (by decide) (fun _ => rfl) hm (fun x_10 hm => ?_)
    refine x_goto (tgt := 34) E dX7_layParts_125 (by decide) ?_
    exact x_weak [1, 2, 3, 0] rfl (hk34 b1 b2 x_10 w hm)
  have hL34 : ∀ (fuel : Nat) (b1 : Int32) (b2 : Int32) (b3 : Int32) (w : Wd), X7_layParts_L34 fuel b1 b2 b3 w = some w' → XV p l e { frames := 5, cells := 0, slots := 0, locals := 122 } s m args below meth c 6 D cs ad (MQ below (xQ D cs ad none w') args s 0 0 (xF ad)) 34 [(0, .ref (ad 12 0)), (1, .int b1), (2, .int b2), (3, .int b3)] [] w := by
    intro fuel
    induction fuel with
    | zero => intro b1 b2 b3 w hm; cases hm
    | succ fuel ih =>
      intro b1 b2 b3 w hm
      rw [X7_layParts_L34] at hm
      refine x_iload_n E dX7_layParts_34 rfl 3 rfl ?_
      refine x_bipush (v := (iI 30)) E dX7_layParts_35 (by decide) ?_
      refine x_icmp_gt (tgt := 128) E dX7_layParts_37 (by decide) hm (fun _ hm => ?_) (fun _ hm => ?_)
      · exact x_vretS E hm dX7_layParts_128
      · refine x_aload_n E dX7_layParts_40 rfl 0 rfl ?_
        refine x_gf (v := .ref (ad 12 15)) E fr_X7_57 rfl rfl dX7_layParts_41 ?_
        refine x_iload_n E dX7_layParts_44 rfl 3 rfl ?_
        refine x_iconst (v := (iI 0)) E dX7_layParts_45 (by decide) ?_
        refine x_iast E rfl rfl (by decide) dX7_layParts_46 hm (fun w_5 hm => ?_)
        refine x_iconst (v := (iI 0)) E dX7_layParts_47 (by decide) ?_
        refine x_istore (lv' := [(4, .int (iI 0)), (0, .ref (ad 12 0)), (1, .int b1), (2, .int b2), (3, .int b3)]) E dX7_layParts_48 (by decide) rfl ?_
        exact x_weak [1, 2, 3, 4, 0] rfl ((hL50 1000 _ (hL122 _ (ih))) b1 b2 b3 (iI 0) w_5 hm)
  have hL32 : ∀ (b1 : Int32) (b2 : Int32) (w : Wd), X7_layParts_L32 b1 b2 w = some w' → XV p l e { frames := 5, cells := 0, slots := 0, locals := 122 } s m args below meth c 6 D cs ad (MQ below (xQ D cs ad none w') args s 0 0 (xF ad)) 32 [(0, .ref (ad 12 0)), (1, .int b1), (2, .int b2)] [] w := by
    intro b1 b2 w hm
    unfold X7_layParts_L32 at hm
    refine x_iconst (v := (iI 1)) E dX7_layParts_32 (by decide) ?_
    refine x_istore_n (lv' := [(3, .int (iI 1)), (0, .ref (ad 12 0)), (1, .int b1), (2, .int b2)]) E dX7_layParts_33 rfl (by decide) rfl ?_
    exact x_weak [1, 2, 3, 0] rfl ((hL34 1000) b1 b2 (iI 1) w hm)
  unfold X7_layParts at hm
  refine x_aload_n E dX7_layParts_0 rfl 0 rfl ?_
  refine x_gf (v := .ref (ad 12 15)) E fr_X7_57 rfl rfl dX7_layParts_1 ?_
  refine x_iconst (v := (iI 0)) E dX7_layParts_4 (by decide) ?_
  refine x_iconst (v := (iI 0)) E dX7_layParts_5 (by decide) ?_
  refine x_iast E rfl rfl (by decide) dX7_layParts_6 hm (fun w_1 hm => ?_)
  refine x_iconst (v := (iI 1)) E dX7_layParts_7 (by decide) ?_
  refine x_istore_n (lv' := [(3, .int (iI 1)), (0, .ref (ad 12 0)), (1, .int a1), (2, .int a2)]) E dX7_layParts_8 rfl (by decide) rfl ?_
  exact x_weak [1, 2, 3, 0] rfl ((hL9 1000 _ (hL32)) a1 a2 (iI 1) w_1 hm)
set_option maxRecDepth 100000 in
set_option maxHeartbeats 4000000 in
theorem c_X7_apartNow (l : Launch) (D : va_G) (cs : vCs) (ad : Nat → Nat → Nat) {w : Wd} {a1 : Int32} {a2 : Int32} {r : Int32} {w' : Wd} (hm : X7_apartNow w a1 a2 = some (r, w')) : Mc l yX7_apartNow cX7_apartNow 4 (some .int) 6 147 D cs ad [.ref (ad 12 0), .int a1, .int a2] w (some (.int r)) w' := by
  refine Mc.of (by decide) (Nat.le_of_ble_eq_true rfl) ?_
  intro p e s m args below meth c E
  replace E : EV p m c cX7_apartNow 4 s args RX7 yX7_apartNow (some .int) meth D cs ad := E
  have hL8 : ∀ (fuel : Nat) (k31 : Int32 → Wd → Option (Int32 × Wd)) (hk31 : ∀ (b3 : Int32) (w : Wd), k31 b3 w = some (r, w') → XV p l e { frames := 6, cells := 0, slots := 0, locals := 147 } s m args below meth c 4 D cs ad (MQ below (xQ D cs ad (some (.int r)) w') args s 0 0 (xF ad)) 31 [(3, .int b3)] [] w) (b3 : Int32) (w : Wd), X7_apartNow_L8 fuel k31 b3 w = some (r, w') → XV p l e { frames := 6, cells := 0, slots := 0, locals := 147 } s m args below meth c 4 D cs ad (MQ below (xQ D cs ad (some (.int r)) w') args s 0 0 (xF ad)) 8 [(0, .ref (ad 12 0)), (3, .int b3)] [] w := by
    intro fuel
    induction fuel with
    | zero => intro k31 hk31 b3 w hm; cases hm
    | succ fuel ih =>
      intro k31 hk31 b3 w hm
      rw [X7_apartNow_L8] at hm
      refine x_iload_n E dX7_apartNow_8 rfl 1 rfl ?_
      refine x_bipush (v := (iI 30)) E dX7_apartNow_9 (by decide) ?_
      refine x_icmp_gt (tgt := 31) E dX7_apartNow_11 (by decide) hm (fun _ hm => ?_) (fun _ hm => ?_)
      · exact x_weak [1] rfl (hk31 b3 w hm)
      · refine x_aload_n E dX7_apartNow_14 rfl 0 rfl ?_
        refine x_gf (v := .ref (ad 12 15)) E fr_X7_57 rfl rfl dX7_apartNow_15 ?_
        refine x_iload_n E dX7_apartNow_18 rfl 1 rfl ?_
        refine x_iald E rfl rfl (by decide) dX7_apartNow_19 hm (fun x_2 hm => ?_)
        refine x_iconst (v := (iI 1)) E dX7_apartNow_20 (by decide) ?_
        refine x_iand E dX7_apartNow_21 ?_
        refine x_if_ne (tgt := 31) E dX7_apartNow_22 (by decide) hm (fun _ hm => ?_) (fun _ hm => ?_)
        · exact x_weak [1] rfl (hk31 b3 w hm)
        · refine x_iincB (lv' := fun x_3 => [(3, .int x_3), (0, .ref (ad 12 0))]) (j := 1) E dX7_apartNow_25 rfl rfl (by decide) (fun _ => rfl) hm (fun x_3 hm => ?_)
          refine x_goto (tgt := 8) E dX7_apartNow_28 (by decide) ?_
          exact x_weak [1, 0] rfl ((ih _ hk31) x_3 w hm)
  have hL31 : ∀ (b3 : Int32) (w : Wd), X7_apartNow_L31 b3 w = some (r, w') → XV p l e { frames := 6, cells := 0, slots := 0, locals := 147 } s m args below meth c 4 D cs ad (MQ below (xQ D cs ad (some (.int r)) w') args s 0 0 (xF ad)) 31 [(3, .int b3)] [] w := by
    intro b3 w hm
    unfold X7_apartNow_L31 at hm
    refine x_iload_n E dX7_apartNow_31 rfl 0 rfl ?_
    refine x_bipush (v := (iI 30)) E dX7_apartNow_32 (by decide) ?_
    refine x_icmp_gt (tgt := 41) E dX7_apartNow_34 (by decide) hm (fun _ hm => ?_) (fun _ hm => ?_)
    · refine x_iconst (v := (iI (-1))) E dX7_apartNow_41 (by decide) ?_
      exact x_iretS E hm dX7_apartNow_42
    · refine x_iload_n E dX7_apartNow_37 rfl 0 rfl ?_
      refine x_goto (tgt := 42) E dX7_apartNow_38 (by decide) ?_
      exact x_iretS E hm dX7_apartNow_42
  unfold X7_apartNow at hm
  refine x_aload_n E dX7_apartNow_0 rfl 0 rfl ?_
  refine x_iload_n E dX7_apartNow_1 rfl 1 rfl ?_
  refine x_iload_n E dX7_apartNow_2 rfl 2 rfl ?_
  obtain ⟨w_1, hc, hm⟩ := ob_inv hm
  refine x_callV (As := [.int a1, .int a2]) (rest := []) E my_X7_layParts wG1061 (c_X7_layParts l D cs ad hc) rfl rfl rfl ⟨Nat.le_of_ble_eq_true rfl, Nat.le_of_ble_eq_true rfl⟩ (Nat.le_of_ble_eq_true rfl) dX7_apartNow_3 ?_
  refine x_iconst (v := (iI 0)) E dX7_apartNow_6 (by decide) ?_
  refine x_istore_n (lv' := [(3, .int (iI 0)), (0, .ref (ad 12 0)), (1, .int a1), (2, .int a2)]) E dX7_apartNow_7 rfl (by decide) rfl ?_
  exact x_weak [1, 0] rfl ((hL8 1000 _ (hL31)) (iI 0) w_1 hm)
set_option maxRecDepth 100000 in
set_option maxHeartbeats 4000000 in
theorem c_X7_apart (l : Launch) (D : va_G) (cs : vCs) (ad : Nat → Nat → Nat) {w : Wd} {a1 : Int32} {a2 : Int32} {r : Int32} {w' : Wd} (hm : X7_apart w a1 a2 = some (r, w')) : Mc l yX7_apart cX7_apart 3 (some .int) 7 170 D cs ad [.ref (ad 12 0), .int a1, .int a2] w (some (.int r)) w' := by
  refine Mc.of (by decide) (Nat.le_of_ble_eq_true rfl) ?_
  intro p e s m args below meth c E
  replace E : EV p m c cX7_apart 3 s args RX7 yX7_apart (some .int) meth D cs ad := E
  unfold X7_apart at hm
  refine x_aload_n E dX7_apart_0 rfl 0 rfl ?_
  refine x_iload_n E dX7_apart_1 rfl 1 rfl ?_
  refine x_callV (As := [.int a1]) (rest := []) E my_X7_isCode wG864 (c_X7_isCode l D cs ad rfl) rfl rfl rfl ⟨Nat.le_of_ble_eq_true rfl, Nat.le_of_ble_eq_true rfl⟩ (Nat.le_of_ble_eq_true rfl) dX7_apart_2 ?_
  refine x_if_eq (tgt := 25) E dX7_apart_5 (by decide) hm (fun _ hm => ?_) (fun _ hm => ?_)
  · refine x_bipush (v := (iI (-101))) E dX7_apart_25 (by decide) ?_
    exact x_iretS E hm dX7_apart_27
  · refine x_aload_n E dX7_apart_8 rfl 0 rfl ?_
    refine x_iload_n E dX7_apart_9 rfl 2 rfl ?_
    refine x_callV (As := [.int a2]) (rest := []) E my_X7_isCode wG864 (c_X7_isCode l D cs ad rfl) rfl rfl rfl ⟨Nat.le_of_ble_eq_true rfl, Nat.le_of_ble_eq_true rfl⟩ (Nat.le_of_ble_eq_true rfl) dX7_apart_10 ?_
    refine x_if_eq (tgt := 25) E dX7_apart_13 (by decide) hm (fun _ hm => ?_) (fun _ hm => ?_)
    · refine x_bipush (v := (iI (-101))) E dX7_apart_25 (by decide) ?_
      exact x_iretS E hm dX7_apart_27
    · refine x_aload_n E dX7_apart_16 rfl 0 rfl ?_
      refine x_iload_n E dX7_apart_17 rfl 1 rfl ?_
      refine x_iload_n E dX7_apart_18 rfl 2 rfl ?_
      obtain ⟨r_1, w_2, hc, hm⟩ := bI_inv hm
      refine x_callV (As := [.int a1, .int a2]) (rest := []) E my_X7_apartNow wG1057 (c_X7_apartNow l D cs ad hc) rfl rfl rfl ⟨Nat.le_of_ble_eq_true rfl, Nat.le_of_ble_eq_true rfl⟩ (Nat.le_of_ble_eq_true rfl) dX7_apart_19 ?_
      refine x_goto (tgt := 27) E dX7_apart_22 (by decide) ?_
      exact x_iretS E hm dX7_apart_27
set_option maxRecDepth 100000 in
set_option maxHeartbeats 4000000 in
theorem c_X7_tryPiece (l : Launch) (D : va_G) (cs : vCs) (ad : Nat → Nat → Nat) {w : Wd} {a1 : Int32} {a2 : Int32} {a3 : Int32} {w' : Wd} (hm : X7_tryPiece w a1 a2 a3 = some w') : Mc l yX7_tryPiece cX7_tryPiece 8 none 0 0 D cs ad [.ref (ad 12 0), .int a1, .int a2, .int a3] w none w' := by
  refine Mc.of (by decide) (Nat.le_of_ble_eq_true rfl) ?_
  intro p e s m args below meth c E
  replace E : EV p m c cX7_tryPiece 8 s args RX7 yX7_tryPiece none meth D cs ad := E
  have hL171 : ∀ (k181 : Int32 → Int32 → Int32 → Int32 → Int32 → Wd → Option Wd) (hk181 : ∀ (b1 : Int32) (b2 : Int32) (b3 : Int32) (b4 : Int32) (b5 : Int32) (w : Wd), k181 b1 b2 b3 b4 b5 w = some w' → XV p l e { frames := 0, cells := 0, slots := 0, locals := 0 } s m args below meth c 8 D cs ad (MQ below (xQ D cs ad none w') args s 0 0 (xF ad)) 181 [(0, .ref (ad 12 0)), (1, .int b1), (2, .int b2), (3, .int b3), (4, .int b4), (5, .int b5)] [] w) (b1 : Int32) (b2 : Int32) (b3 : Int32) (b4 : Int32) (b5 : Int32) (b6 : Int32) (b7 : Int32) (w : Wd), X7_tryPiece_L171 k181 b1 b2 b3 b4 b5 b6 b7 w = some w' → XV p l e { frames := 0, cells := 0, slots := 0, locals := 0 } s m args below meth c 8 D cs ad (MQ below (xQ D cs ad none w') args s 0 0 (xF ad)) 171 [(0, .ref (ad 12 0)), (1, .int b1), (2, .int b2), (3, .int b3), (4, .int b4), (5, .int b5), (6, .int b6), (7, .int b7)] [] w := by
    intro k181 hk181 b1 b2 b3 b4 b5 b6 b7 w hm
    unfold X7_tryPiece_L171 at hm
    refine x_iload E dX7_tryPiece_171 7 rfl ?_
    refine x_if_ne (tgt := 181) E dX7_tryPiece_173 (by decide) hm (fun _ hm => ?_) (fun _ hm => ?_)
    · exact x_weak [0, 1, 2, 3, 4, 5] rfl (hk181 b1 b2 b3 b4 b5 w hm)
    · refine x_iload E dX7_tryPiece_176 6 rfl ?_
      refine x_if_eq (tgt := 221) E dX7_tryPiece_178 (by decide) hm (fun _ hm => ?_) (fun _ hm => ?_)
      · exact x_vretS E hm dX7_tryPiece_221
      · exact x_weak [0, 1, 2, 3, 4, 5] rfl (hk181 b1 b2 b3 b4 b5 w hm)
  have hL181 : ∀ (b1 : Int32) (b2 : Int32) (b3 : Int32) (b4 : Int32) (b5 : Int32) (w : Wd), X7_tryPiece_L181 b1 b2 b3 b4 b5 w = some w' → XV p l e { frames := 0, cells := 0, slots := 0, locals := 0 } s m args below meth c 8 D cs ad (MQ below (xQ D cs ad none w') args s 0 0 (xF ad)) 181 [(0, .ref (ad 12 0)), (1, .int b1), (2, .int b2), (3, .int b3), (4, .int b4), (5, .int b5)] [] w := by
    intro b1 b2 b3 b4 b5 w hm
    unfold X7_tryPiece_L181 at hm
    refine x_aload_n E dX7_tryPiece_181 rfl 0 rfl ?_
    refine x_gf (v := .ref (ad 12 16)) E fr_X7_60 rfl rfl dX7_tryPiece_182 ?_
    refine x_iload_n E dX7_tryPiece_185 rfl 1 rfl ?_
    refine x_iload E dX7_tryPiece_186 4 rfl ?_
    refine x_iast E rfl rfl (by decide) dX7_tryPiece_188 hm (fun w_16 hm => ?_)
    refine x_aload_n E dX7_tryPiece_189 rfl 0 rfl ?_
    refine x_gf (v := .ref (ad 12 17)) E fr_X7_63 rfl rfl dX7_tryPiece_190 ?_
    refine x_iload_n E dX7_tryPiece_193 rfl 1 rfl ?_
    refine x_iload E dX7_tryPiece_194 5 rfl ?_
    refine x_iast E rfl rfl (by decide) dX7_tryPiece_196 hm (fun w_17 hm => ?_)
    refine x_aload_n E dX7_tryPiece_197 rfl 0 rfl ?_
    refine x_gf (v := .ref (ad 12 18)) E fr_X7_66 rfl rfl dX7_tryPiece_198 ?_
    refine x_iload_n E dX7_tryPiece_201 rfl 1 rfl ?_
    refine x_iload_n E dX7_tryPiece_202 rfl 2 rfl ?_
    refine x_iast E rfl rfl (by decide) dX7_tryPiece_203 hm (fun w_18 hm => ?_)
    refine x_aload_n E dX7_tryPiece_204 rfl 0 rfl ?_
    refine x_gf (v := .ref (ad 12 19)) E fr_X7_69 rfl rfl dX7_tryPiece_205 ?_
    refine x_iload_n E dX7_tryPiece_208 rfl 1 rfl ?_
    refine x_iload_n E dX7_tryPiece_209 rfl 3 rfl ?_
    refine x_iast E rfl rfl (by decide) dX7_tryPiece_210 hm (fun w_19 hm => ?_)
    refine x_aload_n E dX7_tryPiece_211 rfl 0 rfl ?_
    refine x_gf (v := .ref (ad 12 20)) E fr_X7_72 rfl rfl dX7_tryPiece_212 ?_
    refine x_iload_n E dX7_tryPiece_215 rfl 1 rfl ?_
    refine x_aload_n E dX7_tryPiece_216 rfl 0 rfl ?_
    refine x_gf (v := .int (rd w_19 12 0 17)) E fr_X7_164 rfl rfl dX7_tryPiece_217 ?_
    refine x_iast E rfl rfl (by decide) dX7_tryPiece_220 hm (fun w_20 hm => ?_)
    exact x_vretS E hm dX7_tryPiece_221
  have hL136 : ∀ (b1 : Int32) (b2 : Int32) (b3 : Int32) (b4 : Int32) (b5 : Int32) (b6 : Int32) (t0 : Int32) (w : Wd), X7_tryPiece_L136 b1 b2 b3 b4 b5 b6 t0 w = some w' → XV p l e { frames := 0, cells := 0, slots := 0, locals := 0 } s m args below meth c 8 D cs ad (MQ below (xQ D cs ad none w') args s 0 0 (xF ad)) 136 [(0, .ref (ad 12 0)), (1, .int b1), (2, .int b2), (3, .int b3), (4, .int b4), (5, .int b5), (6, .int b6)] [.int t0] w := by
    intro b1 b2 b3 b4 b5 b6 t0 w hm
    unfold X7_tryPiece_L136 at hm
    refine x_istore (lv' := [(7, .int t0), (0, .ref (ad 12 0)), (1, .int b1), (2, .int b2), (3, .int b3), (4, .int b4), (5, .int b5), (6, .int b6)]) E dX7_tryPiece_136 (by decide) rfl ?_
    refine x_iload E dX7_tryPiece_138 5 rfl ?_
    refine x_aload_n E dX7_tryPiece_140 rfl 1 rfl ?_
    refine x_gf (v := .ref (ad 12 16)) E fr_X7_60 rfl rfl dX7_tryPiece_141 ?_
    refine x_iload_n E dX7_tryPiece_144 rfl 2 rfl ?_
    refine x_iald E rfl rfl (by decide) dX7_tryPiece_145 hm (fun x_13 hm => ?_)
    refine x_icmp_gt (tgt := 181) E dX7_tryPiece_146 (by decide) hm (fun _ hm => ?_) (fun _ hm => ?_)
    · exact x_weak [1, 2, 3, 4, 5, 6] rfl ((hL181) b1 b2 b3 b4 b5 w hm)
    · refine x_iload E dX7_tryPiece_149 5 rfl ?_
      refine x_aload_n E dX7_tryPiece_151 rfl 1 rfl ?_
      refine x_gf (v := .ref (ad 12 16)) E fr_X7_60 rfl rfl dX7_tryPiece_152 ?_
      refine x_iload_n E dX7_tryPiece_155 rfl 2 rfl ?_
      refine x_iald E rfl rfl (by decide) dX7_tryPiece_156 hm (fun x_14 hm => ?_)
      refine x_icmp_ne (tgt := 171) E dX7_tryPiece_157 (by decide) hm (fun _ hm => ?_) (fun _ hm => ?_)
      · exact x_weak [1, 2, 3, 4, 5, 6, 7, 0] rfl ((hL171 _ (hL181)) b1 b2 b3 b4 b5 b6 t0 w hm)
      · refine x_iload E dX7_tryPiece_160 6 rfl ?_
        refine x_aload_n E dX7_tryPiece_162 rfl 1 rfl ?_
        refine x_gf (v := .ref (ad 12 17)) E fr_X7_63 rfl rfl dX7_tryPiece_163 ?_
        refine x_iload_n E dX7_tryPiece_166 rfl 2 rfl ?_
        refine x_iald E rfl rfl (by decide) dX7_tryPiece_167 hm (fun x_15 hm => ?_)
        refine x_icmp_lt (tgt := 181) E dX7_tryPiece_168 (by decide) hm (fun _ hm => ?_) (fun _ hm => ?_)
        · exact x_weak [1, 2, 3, 4, 5, 6] rfl ((hL181) b1 b2 b3 b4 b5 w hm)
        · exact x_weak [1, 2, 3, 4, 5, 6, 7, 0] rfl ((hL171 _ (hL181)) b1 b2 b3 b4 b5 b6 t0 w hm)
  have hL97 : ∀ (b1 : Int32) (b2 : Int32) (b3 : Int32) (b4 : Int32) (b5 : Int32) (t0 : Int32) (w : Wd), X7_tryPiece_L97 b1 b2 b3 b4 b5 t0 w = some w' → XV p l e { frames := 0, cells := 0, slots := 0, locals := 0 } s m args below meth c 8 D cs ad (MQ below (xQ D cs ad none w') args s 0 0 (xF ad)) 97 [(0, .ref (ad 12 0)), (1, .int b1), (2, .int b2), (3, .int b3), (4, .int b4), (5, .int b5)] [.int t0] w := by
    intro b1 b2 b3 b4 b5 t0 w hm
    unfold X7_tryPiece_L97 at hm
    refine x_istore (lv' := [(6, .int t0), (0, .ref (ad 12 0)), (1, .int b1), (2, .int b2), (3, .int b3), (4, .int b4), (5, .int b5)]) E dX7_tryPiece_97 (by decide) rfl ?_
    refine x_iload E dX7_tryPiece_99 5 rfl ?_
    refine x_aload_n E dX7_tryPiece_101 rfl 1 rfl ?_
    refine x_gf (v := .ref (ad 12 16)) E fr_X7_60 rfl rfl dX7_tryPiece_102 ?_
    refine x_iload_n E dX7_tryPiece_105 rfl 2 rfl ?_
    refine x_iald E rfl rfl (by decide) dX7_tryPiece_106 hm (fun x_10 hm => ?_)
    refine x_icmp_ne (tgt := 135) E dX7_tryPiece_107 (by decide) hm (fun _ hm => ?_) (fun _ hm => ?_)
    · refine x_iconst (v := (iI 0)) E dX7_tryPiece_135 (by decide) ?_
      exact x_weak [1, 2, 3, 4, 5, 6, 0] rfl ((hL136) b1 b2 b3 b4 b5 t0 (iI 0) w hm)
    · refine x_iload E dX7_tryPiece_110 6 rfl ?_
      refine x_aload_n E dX7_tryPiece_112 rfl 1 rfl ?_
      refine x_gf (v := .ref (ad 12 17)) E fr_X7_63 rfl rfl dX7_tryPiece_113 ?_
      refine x_iload_n E dX7_tryPiece_116 rfl 2 rfl ?_
      refine x_iald E rfl rfl (by decide) dX7_tryPiece_117 hm (fun x_11 hm => ?_)
      refine x_icmp_ne (tgt := 135) E dX7_tryPiece_118 (by decide) hm (fun _ hm => ?_) (fun _ hm => ?_)
      · refine x_iconst (v := (iI 0)) E dX7_tryPiece_135 (by decide) ?_
        exact x_weak [1, 2, 3, 4, 5, 6, 0] rfl ((hL136) b1 b2 b3 b4 b5 t0 (iI 0) w hm)
      · refine x_iload_n E dX7_tryPiece_121 rfl 3 rfl ?_
        refine x_aload_n E dX7_tryPiece_122 rfl 1 rfl ?_
        refine x_gf (v := .ref (ad 12 18)) E fr_X7_66 rfl rfl dX7_tryPiece_123 ?_
        refine x_iload_n E dX7_tryPiece_126 rfl 2 rfl ?_
        refine x_iald E rfl rfl (by decide) dX7_tryPiece_127 hm (fun x_12 hm => ?_)
        refine x_icmp_ge (tgt := 135) E dX7_tryPiece_128 (by decide) hm (fun _ hm => ?_) (fun _ hm => ?_)
        · refine x_iconst (v := (iI 0)) E dX7_tryPiece_135 (by decide) ?_
          exact x_weak [1, 2, 3, 4, 5, 6, 0] rfl ((hL136) b1 b2 b3 b4 b5 t0 (iI 0) w hm)
        · refine x_iconst (v := (iI 1)) E dX7_tryPiece_131 (by decide) ?_
          refine x_goto (tgt := 136) E dX7_tryPiece_132 (by decide) ?_
          exact x_weak [1, 2, 3, 4, 5, 6, 0] rfl ((hL136) b1 b2 b3 b4 b5 t0 (iI 1) w hm)
  have hL37 : ∀ (b1 : Int32) (b2 : Int32) (b3 : Int32) (t0 : Int32) (t1 : Int32) (w : Wd), X7_tryPiece_L37 b1 b2 b3 t0 t1 w = some w' → XV p l e { frames := 0, cells := 0, slots := 0, locals := 0 } s m args below meth c 8 D cs ad (MQ below (xQ D cs ad none w') args s 0 0 (xF ad)) 37 [(0, .ref (ad 12 0)), (1, .int b1), (2, .int b2), (3, .int b3)] [.int t0, .int t1] w := by
    intro b1 b2 b3 t0 t1 w hm
    unfold X7_tryPiece_L37 at hm
    refine x_isub E dX7_tryPiece_37 ?_
    refine x_bI hm (fun x_3 hm => ?_)
    refine x_istore (lv' := [(4, .int x_3), (0, .ref (ad 12 0)), (1, .int b1), (2, .int b2), (3, .int b3)]) E dX7_tryPiece_38 (by decide) rfl ?_
    refine x_iconst (v := (iI 1)) E dX7_tryPiece_40 (by decide) ?_
    refine x_aload_n E dX7_tryPiece_41 rfl 1 rfl ?_
    refine x_gf (v := .ref (ad 12 17)) E fr_X7_63 rfl rfl dX7_tryPiece_42 ?_
    refine x_iload_n E dX7_tryPiece_45 rfl 3 rfl ?_
    refine x_iald E rfl rfl (by decide) dX7_tryPiece_46 hm (fun x_4 hm => ?_)
    refine x_iadd E dX7_tryPiece_47 ?_
    refine x_bI hm (fun x_5 hm => ?_)
    refine x_istore (lv' := [(5, .int x_5), (4, .int x_3), (0, .ref (ad 12 0)), (1, .int b1), (2, .int b2), (3, .int b3)]) E dX7_tryPiece_48 (by decide) rfl ?_
    refine x_iload E dX7_tryPiece_50 1 rfl ?_
    refine x_aload_n E dX7_tryPiece_52 rfl 2 rfl ?_
    refine x_gf (v := .ref (ad 12 16)) E fr_X7_60 rfl rfl dX7_tryPiece_53 ?_
    refine x_iload_n E dX7_tryPiece_56 rfl 3 rfl ?_
    refine x_iald E rfl rfl (by decide) dX7_tryPiece_57 hm (fun x_6 hm => ?_)
    refine x_icmp_ne (tgt := 96) E dX7_tryPiece_58 (by decide) hm (fun _ hm => ?_) (fun _ hm => ?_)
    · refine x_iconst (v := (iI 0)) E dX7_tryPiece_96 (by decide) ?_
      exact x_weak [2, 3, 4, 5, 1, 0] rfl ((hL97) b1 b2 b3 x_3 x_5 (iI 0) w hm)
    · refine x_iload E dX7_tryPiece_61 0 rfl ?_
      refine x_aload_n E dX7_tryPiece_63 rfl 2 rfl ?_
      refine x_gf (v := .ref (ad 12 17)) E fr_X7_63 rfl rfl dX7_tryPiece_64 ?_
      refine x_iload_n E dX7_tryPiece_67 rfl 3 rfl ?_
      refine x_iald E rfl rfl (by decide) dX7_tryPiece_68 hm (fun x_7 hm => ?_)
      refine x_icmp_ne (tgt := 96) E dX7_tryPiece_69 (by decide) hm (fun _ hm => ?_) (fun _ hm => ?_)
      · refine x_iconst (v := (iI 0)) E dX7_tryPiece_96 (by decide) ?_
        exact x_weak [2, 3, 4, 5, 1, 0] rfl ((hL97) b1 b2 b3 x_3 x_5 (iI 0) w hm)
      · refine x_iload_n E dX7_tryPiece_72 rfl 4 rfl ?_
        refine x_aload_n E dX7_tryPiece_73 rfl 2 rfl ?_
        refine x_gf (v := .ref (ad 12 18)) E fr_X7_66 rfl rfl dX7_tryPiece_74 ?_
        refine x_iload_n E dX7_tryPiece_77 rfl 3 rfl ?_
        refine x_iald E rfl rfl (by decide) dX7_tryPiece_78 hm (fun x_8 hm => ?_)
        refine x_icmp_ne (tgt := 96) E dX7_tryPiece_79 (by decide) hm (fun _ hm => ?_) (fun _ hm => ?_)
        · refine x_iconst (v := (iI 0)) E dX7_tryPiece_96 (by decide) ?_
          exact x_weak [2, 3, 4, 5, 1, 0] rfl ((hL97) b1 b2 b3 x_3 x_5 (iI 0) w hm)
        · refine x_iload_n E dX7_tryPiece_82 rfl 5 rfl ?_
          refine x_aload_n E dX7_tryPiece_83 rfl 2 rfl ?_
          refine x_gf (v := .ref (ad 12 19)) E fr_X7_69 rfl rfl dX7_tryPiece_84 ?_
          refine x_iload_n E dX7_tryPiece_87 rfl 3 rfl ?_
          refine x_iald E rfl rfl (by decide) dX7_tryPiece_88 hm (fun x_9 hm => ?_)
          refine x_icmp_ge (tgt := 96) E dX7_tryPiece_89 (by decide) hm (fun _ hm => ?_) (fun _ hm => ?_)
          · refine x_iconst (v := (iI 0)) E dX7_tryPiece_96 (by decide) ?_
            exact x_weak [2, 3, 4, 5, 1, 0] rfl ((hL97) b1 b2 b3 x_3 x_5 (iI 0) w hm)
          · refine x_iconst (v := (iI 1)) E dX7_tryPiece_92 (by decide) ?_
            refine x_goto (tgt := 97) E dX7_tryPiece_93 (by decide) ?_
            exact x_weak [2, 3, 4, 5, 1, 0] rfl ((hL97) b1 b2 b3 x_3 x_5 (iI 1) w hm)
  unfold X7_tryPiece at hm
  refine x_aload_n E dX7_tryPiece_0 rfl 0 rfl ?_
  refine x_gf (v := .ref (ad 12 16)) E fr_X7_60 rfl rfl dX7_tryPiece_1 ?_
  refine x_iload_n E dX7_tryPiece_4 rfl 2 rfl ?_
  refine x_iald E rfl rfl (by decide) dX7_tryPiece_5 hm (fun x_1 hm => ?_)
  refine x_ldc (v := (iI (-100000))) E wG981 dX7_tryPiece_6 ?_
  refine x_icmp_ne (tgt := 12) E dX7_tryPiece_8 (by decide) hm (fun _ hm => ?_) (fun _ hm => ?_)
  · refine x_aload_n E dX7_tryPiece_12 rfl 0 rfl ?_
    refine x_gf (v := .int (rd w 12 0 17)) E fr_X7_164 rfl rfl dX7_tryPiece_13 ?_
    refine x_aload_n E dX7_tryPiece_16 rfl 0 rfl ?_
    refine x_gf (v := .ref (ad 12 16)) E fr_X7_60 rfl rfl dX7_tryPiece_17 ?_
    refine x_iload_n E dX7_tryPiece_20 rfl 2 rfl ?_
    refine x_iald E rfl rfl (by decide) dX7_tryPiece_21 hm (fun x_2 hm => ?_)
    refine x_iadd E dX7_tryPiece_22 ?_
    refine x_iload_n E dX7_tryPiece_23 rfl 2 rfl ?_
    refine x_aload_n E dX7_tryPiece_24 rfl 0 rfl ?_
    refine x_gf (v := .int (rd w 12 0 8)) E fr_X7_133 rfl rfl dX7_tryPiece_25 ?_
    refine x_icmp_ge (tgt := 36) E dX7_tryPiece_28 (by decide) hm (fun _ hm => ?_) (fun _ hm => ?_)
    · refine x_iconst (v := (iI 0)) E dX7_tryPiece_36 (by decide) ?_
      exact (hL37) a1 a2 a3 (iI 0) ((rd w 12 0 17) + x_2) w hm
    · refine x_bipush (v := (iI 7)) E dX7_tryPiece_31 (by decide) ?_
      refine x_goto (tgt := 37) E dX7_tryPiece_33 (by decide) ?_
      exact (hL37) a1 a2 a3 (iI 7) ((rd w 12 0 17) + x_2) w hm
  · exact x_vretS E hm dX7_tryPiece_11

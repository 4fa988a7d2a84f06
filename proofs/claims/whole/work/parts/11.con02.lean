set_option maxRecDepth 100000 in
set_option maxHeartbeats 4000000 in
theorem c_X5_isValid (l : Launch) (D : va_G) (cs : vCs) (ad : Nat → Nat → Nat) {w : Wd} {g : Nat} (hg : kl g = 4) {r : Int32} (hm : X5_isValid w g = some r) : Mc l yX5_isValid cX5_isValid 1 (some .boolean) 1 20 D cs ad [.ref (ad g 0)] w (some (.int r)) w := by
  refine Mc.of (by decide) (Nat.le_of_ble_eq_true rfl) ?_
  intro p e s m args below meth c E
  replace E : EV p m c cX5_isValid 1 s args RX5 yX5_isValid (some .boolean) meth D cs ad := E
  unfold X5_isValid at hm
  refine x_aload_n E dX5_isValid_0 rfl 0 rfl ?_
  refine x_gf (v := .int (rd w g 0 6)) E fr_X5_48 hg rfl dX5_isValid_1 ?_
  refine x_if_eq (tgt := 26) E dX5_isValid_4 (by decide) hm (fun _ hm => ?_) (fun _ hm => ?_)
  · refine x_iconst (v := (iI 0)) E dX5_isValid_26 (by decide) ?_
    exact x_zretP E rfl hm dX5_isValid_27
  · refine x_aload_n E dX5_isValid_7 rfl 0 rfl ?_
    refine x_gf (v := .ref (ad g 1)) E fr_X5_9 hg rfl dX5_isValid_8 ?_
    refine x_aload_n E dX5_isValid_11 rfl 0 rfl ?_
    refine x_gf (v := .int (rd w g 0 5)) E fr_X5_35 hg rfl dX5_isValid_12 ?_
    refine x_iald E hg rfl (by decide) dX5_isValid_15 hm (fun x_1 hm => ?_)
    refine x_callS (As := [.int x_1]) (rest := []) E my_X0_modeOf wG367 (c_X0_modeOf l D cs ad rfl) rfl ⟨Nat.le_of_ble_eq_true rfl, Nat.le_of_ble_eq_true rfl⟩ (Nat.le_of_ble_eq_true rfl) dX5_isValid_16 ?_
    refine x_if_ne (tgt := 26) E dX5_isValid_19 (by decide) hm (fun _ hm => ?_) (fun _ hm => ?_)
    · refine x_iconst (v := (iI 0)) E dX5_isValid_26 (by decide) ?_
      exact x_zretP E rfl hm dX5_isValid_27
    · refine x_iconst (v := (iI 1)) E dX5_isValid_22 (by decide) ?_
      refine x_goto (tgt := 27) E dX5_isValid_23 (by decide) ?_
      exact x_zretP E rfl hm dX5_isValid_27
set_option maxRecDepth 100000 in
set_option maxHeartbeats 4000000 in
theorem c_X5_group (l : Launch) (D : va_G) (cs : vCs) (ad : Nat → Nat → Nat) {w : Wd} {g : Nat} (hg : kl g = 4) {r : Int32} (hm : X5_group w g = some r) : Mc l yX5_group cX5_group 1 (some .int) 2 40 D cs ad [.ref (ad g 0)] w (some (.int r)) w := by
  refine Mc.of (by decide) (Nat.le_of_ble_eq_true rfl) ?_
  intro p e s m args below meth c E
  replace E : EV p m c cX5_group 1 s args RX5 yX5_group (some .int) meth D cs ad := E
  unfold X5_group at hm
  refine x_aload_n E dX5_group_0 rfl 0 rfl ?_
  obtain ⟨r_1, hc, hm⟩ := ob_inv hm
  refine x_callV (As := []) (rest := []) E my_X5_isValid wG545 (c_X5_isValid l D cs ad hg hc) hg rfl rfl ⟨Nat.le_of_ble_eq_true rfl, Nat.le_of_ble_eq_true rfl⟩ (Nat.le_of_ble_eq_true rfl) dX5_group_1 ?_
  refine x_if_eq (tgt := 9) E dX5_group_4 (by decide) hm (fun _ hm => ?_) (fun _ hm => ?_)
  · refine x_aload_n E dX5_group_9 rfl 0 rfl ?_
    refine x_gf (v := .int (rd w g 0 6)) E fr_X5_48 hg rfl dX5_group_10 ?_
    refine x_if_eq (tgt := 20) E dX5_group_13 (by decide) hm (fun _ hm => ?_) (fun _ hm => ?_)
    · refine x_iconst (v := (iI 2)) E dX5_group_20 (by decide) ?_
      exact x_iretP E hm dX5_group_21
    · refine x_iconst (v := (iI 1)) E dX5_group_16 (by decide) ?_
      refine x_goto (tgt := 21) E dX5_group_17 (by decide) ?_
      exact x_iretP E hm dX5_group_21
  · refine x_iconst (v := (iI 0)) E dX5_group_7 (by decide) ?_
    exact x_iretP E hm dX5_group_8
set_option maxRecDepth 100000 in
set_option maxHeartbeats 4000000 in
theorem c_X5_isAlive (l : Launch) (D : va_G) (cs : vCs) (ad : Nat → Nat → Nat) {w : Wd} {g : Nat} (hg : kl g = 4) {r : Int32} (hm : X5_isAlive w g = some r) : Mc l yX5_isAlive cX5_isAlive 1 (some .boolean) 0 0 D cs ad [.ref (ad g 0)] w (some (.int r)) w := by
  refine Mc.of (by decide) (Nat.le_of_ble_eq_true rfl) ?_
  intro p e s m args below meth c E
  replace E : EV p m c cX5_isAlive 1 s args RX5 yX5_isAlive (some .boolean) meth D cs ad := E
  unfold X5_isAlive at hm
  refine x_aload_n E dX5_isAlive_0 rfl 0 rfl ?_
  refine x_gf (v := .int (rd w g 0 6)) E fr_X5_48 hg rfl dX5_isAlive_1 ?_
  obtain ⟨hz, hm⟩ := zb_inv hm
  exact x_zretP E (isB_nar hz) hm dX5_isAlive_4
set_option maxRecDepth 100000 in
set_option maxHeartbeats 4000000 in
theorem c_X5_pairCount (l : Launch) (D : va_G) (cs : vCs) (ad : Nat → Nat → Nat) {w : Wd} {g : Nat} {a1 : Int32} (hg : kl g = 4) {r : Int32} (hm : X5_pairCount w g a1 = some r) : Mc l yX5_pairCount cX5_pairCount 2 (some .int) 1 20 D cs ad [.ref (ad g 0), .int a1] w (some (.int r)) w := by
  refine Mc.of (by decide) (Nat.le_of_ble_eq_true rfl) ?_
  intro p e s m args below meth c E
  replace E : EV p m c cX5_pairCount 2 s args RX5 yX5_pairCount (some .int) meth D cs ad := E
  unfold X5_pairCount at hm
  refine x_iload_n E dX5_pairCount_0 rfl 1 rfl ?_
  refine x_callSN (As := [.int a1]) (rest := []) E my_X6_isSortPair E.2.1.2.2.1.1 (c_X6_isSortPair l D cs ad rfl) rfl ⟨Nat.le_of_ble_eq_true rfl, Nat.le_of_ble_eq_true rfl⟩ (Nat.le_of_ble_eq_true rfl) dX5_pairCount_1 ?_
  refine x_if_eq (tgt := 16) E dX5_pairCount_4 (by decide) hm (fun _ hm => ?_) (fun _ hm => ?_)
  · refine x_iconst (v := (iI 0)) E dX5_pairCount_16 (by decide) ?_
    exact x_iretP E hm dX5_pairCount_17
  · refine x_aload_n E dX5_pairCount_7 rfl 0 rfl ?_
    refine x_gf (v := .ref (ad g 3)) E fr_X5_18 hg rfl dX5_pairCount_8 ?_
    refine x_iload_n E dX5_pairCount_11 rfl 1 rfl ?_
    refine x_iald E hg rfl (by decide) dX5_pairCount_12 hm (fun x_1 hm => ?_)
    refine x_goto (tgt := 17) E dX5_pairCount_13 (by decide) ?_
    exact x_iretP E hm dX5_pairCount_17
set_option maxRecDepth 100000 in
set_option maxHeartbeats 4000000 in
theorem c_X5_signCount (l : Launch) (D : va_G) (cs : vCs) (ad : Nat → Nat → Nat) {w : Wd} {g : Nat} (hg : kl g = 4) {r : Int32} (hm : X5_signCount w g = r) : Mc l yX5_signCount cX5_signCount 1 (some .int) 0 0 D cs ad [.ref (ad g 0)] w (some (.int r)) w := by
  refine Mc.of (by decide) (Nat.le_of_ble_eq_true rfl) ?_
  intro p e s m args below meth c E
  replace E : EV p m c cX5_signCount 1 s args RX5 yX5_signCount (some .int) meth D cs ad := E
  unfold X5_signCount at hm
  refine x_aload_n E dX5_signCount_0 rfl 0 rfl ?_
  refine x_gf (v := .int (rd w g 0 4)) E fr_X5_31 hg rfl dX5_signCount_1 ?_
  exact x_iretT E hm dX5_signCount_4
set_option maxRecDepth 100000 in
set_option maxHeartbeats 4000000 in
theorem c_X5_weight (l : Launch) (D : va_G) (cs : vCs) (ad : Nat → Nat → Nat) {w : Wd} {g : Nat} (hg : kl g = 4) {r : Int32} (hm : X5_weight w g = some r) : Mc l yX5_weight cX5_weight 1 (some .int) 0 0 D cs ad [.ref (ad g 0)] w (some (.int r)) w := by
  refine Mc.of (by decide) (Nat.le_of_ble_eq_true rfl) ?_
  intro p e s m args below meth c E
  replace E : EV p m c cX5_weight 1 s args RX5 yX5_weight (some .int) meth D cs ad := E
  unfold X5_weight at hm
  refine x_aload_n E dX5_weight_0 rfl 0 rfl ?_
  refine x_gf (v := .ref (ad g 2)) E fr_X5_15 hg rfl dX5_weight_1 ?_
  refine x_aload_n E dX5_weight_4 rfl 0 rfl ?_
  refine x_gf (v := .int (rd w g 0 5)) E fr_X5_35 hg rfl dX5_weight_5 ?_
  refine x_iald E hg rfl (by decide) dX5_weight_8 hm (fun x_1 hm => ?_)
  exact x_iretP E hm dX5_weight_9
set_option maxRecDepth 100000 in
set_option maxHeartbeats 4000000 in
theorem c_X6_isCode (l : Launch) (D : va_G) (cs : vCs) (ad : Nat → Nat → Nat) {w : Wd} {a1 : Int32} {r : Int32} (hm : X6_isCode w a1 = r) : Mc l yX6_isCode cX6_isCode 2 (some .boolean) 0 0 D cs ad [.ref (ad 0 0), .int a1] w (some (.int r)) w := by
  refine Mc.of (by decide) (Nat.le_of_ble_eq_true rfl) ?_
  intro p e s m args below meth c E
  replace E : EV p m c cX6_isCode 2 s args RX6 yX6_isCode (some .boolean) meth D cs ad := E
  unfold X6_isCode at hm
  refine x_iload_n E dX6_isCode_0 rfl 1 rfl ?_
  refine x_if_lt (tgt := 16) E dX6_isCode_1 (by decide) hm (fun _ hm => ?_) (fun _ hm => ?_)
  · refine x_iconst (v := (iI 0)) E dX6_isCode_16 (by decide) ?_
    exact x_zretT E rfl hm dX6_isCode_17
  · refine x_iload_n E dX6_isCode_4 rfl 1 rfl ?_
    refine x_aload_n E dX6_isCode_5 rfl 0 rfl ?_
    refine x_gf (v := .int (rd w 0 0 7)) E fr_X6_42 rfl rfl dX6_isCode_6 ?_
    refine x_icmp_ge (tgt := 16) E dX6_isCode_9 (by decide) hm (fun _ hm => ?_) (fun _ hm => ?_)
    · refine x_iconst (v := (iI 0)) E dX6_isCode_16 (by decide) ?_
      exact x_zretT E rfl hm dX6_isCode_17
    · refine x_iconst (v := (iI 1)) E dX6_isCode_12 (by decide) ?_
      refine x_goto (tgt := 17) E dX6_isCode_13 (by decide) ?_
      exact x_zretT E rfl hm dX6_isCode_17
set_option maxRecDepth 100000 in
set_option maxHeartbeats 4000000 in
theorem c_X6_firstSure (l : Launch) (D : va_G) (cs : vCs) (ad : Nat → Nat → Nat) {w : Wd} {a1 : Int32} {r : Int32} {w' : Wd} (hm : X6_firstSure w a1 = some (r, w')) : Mc l yX6_firstSure cX6_firstSure 6 (some .int) 4 163 D cs ad [.ref (ad 0 0), .int a1] w (some (.int r)) w' := by
  refine Mc.of (by decide) (Nat.le_of_ble_eq_true rfl) ?_
  intro p e s m args below meth c E
  replace E : EV p m c cX6_firstSure 6 s args RX6 yX6_firstSure (some .int) meth D cs ad := E
  have hL30 : ∀ (fuel : Nat) (k102 : Int32 → Int32 → Wd → Option (Int32 × Wd)) (hk102 : ∀ (b2 : Int32) (b3 : Int32) (w : Wd), k102 b2 b3 w = some (r, w') → XV p l e { frames := 4, cells := 0, slots := 0, locals := 163 } s m args below meth c 6 D cs ad (MQ below (xQ D cs ad (some (.int r)) w') args s 0 0 (xF ad)) 102 [(2, .int b2), (3, .int b3)] [] w) (b1 : Int32) (b2 : Int32) (b3 : Int32) (b4 : Int32) (w : Wd), X6_firstSure_L30 fuel k102 b1 b2 b3 b4 w = some (r, w') → XV p l e { frames := 4, cells := 0, slots := 0, locals := 163 } s m args below meth c 6 D cs ad (MQ below (xQ D cs ad (some (.int r)) w') args s 0 0 (xF ad)) 30 [(0, .ref (ad 0 0)), (1, .int b1), (2, .int b2), (3, .int b3), (4, .int b4)] [] w := by
    intro fuel
    induction fuel with
    | zero => intro k102 hk102 b1 b2 b3 b4 w hm; cases hm
    | succ fuel ih =>
      intro k102 hk102 b1 b2 b3 b4 w hm
      rw [X6_firstSure_L30] at hm
      refine x_iload E dX6_firstSure_30 4 rfl ?_
      refine x_aload_n E dX6_firstSure_32 rfl 0 rfl ?_
      refine x_gf (v := .int (rd w 0 0 7)) E fr_X6_42 rfl rfl dX6_firstSure_33 ?_
      refine x_icmp_ge (tgt := 102) E dX6_firstSure_36 (by decide) hm (fun _ hm => ?_) (fun _ hm => ?_)
      · exact x_weak [2, 3] rfl (hk102 b2 b3 w hm)
      · refine x_iload_n E dX6_firstSure_39 rfl 3 rfl ?_
        refine x_iload_n E dX6_firstSure_40 rfl 2 rfl ?_
        refine x_icmp_gt (tgt := 102) E dX6_firstSure_41 (by decide) hm (fun _ hm => ?_) (fun _ hm => ?_)
        · exact x_weak [2, 3] rfl (hk102 b2 b3 w hm)
        · refine x_iload E dX6_firstSure_44 4 rfl ?_
          refine x_iload_n E dX6_firstSure_46 rfl 1 rfl ?_
          refine x_icmp_eq (tgt := 96) E dX6_firstSure_47 (by decide) hm (fun _ hm => ?_) (fun _ hm => ?_)
          · refine x_iincB (lv' := fun x_3 => [(4, .int x_3), (0, .ref (ad 0 0)), (1, .int b1), (2, .int b2), (3, .int b3)]) (j := 4) E dX6_firstSure_96 rfl rfl (by decide) (fun _ => rfl) hm (fun x_3 hm => ?_)
            refine x_goto (tgt := 30) E dX6_firstSure_99 (by decide) ?_
            exact x_weak [1, 2, 3, 4, 0] rfl ((ih _ hk102) b1 b2 b3 x_3 w hm)
          · refine x_aload_n E dX6_firstSure_50 rfl 0 rfl ?_
            refine x_gf (v := .ref (ad 9 0)) E fr_X6_54 rfl rfl dX6_firstSure_51 ?_
            refine x_aload_n E dX6_firstSure_54 rfl 0 rfl ?_
            refine x_gf (v := .ref (ad 0 4)) E fr_X6_34 rfl rfl dX6_firstSure_55 ?_
            refine x_iload_n E dX6_firstSure_58 rfl 1 rfl ?_
            refine x_aaldR E dX6_firstSure_59 hm (fun n_4 hn_4 hm => ?_)
            refine x_aload_n E dX6_firstSure_60 rfl 0 rfl ?_
            refine x_gf (v := .ref (ad 0 4)) E fr_X6_34 rfl rfl dX6_firstSure_61 ?_
            refine x_iload E dX6_firstSure_64 4 rfl ?_
            refine x_aaldR E dX6_firstSure_66 hm (fun n_5 hn_5 hm => ?_)
            refine x_aload_n E dX6_firstSure_67 rfl 0 rfl ?_
            refine x_gf (v := .int (rd w 0 0 4)) E fr_X6_23 rfl rfl dX6_firstSure_68 ?_
            refine x_iload E dX6_firstSure_71 4 rfl ?_
            refine x_iload_n E dX6_firstSure_73 rfl 1 rfl ?_
            refine x_icmp_ge (tgt := 81) E dX6_firstSure_74 (by decide) hm (fun _ hm => ?_) (fun _ hm => ?_)
            · refine x_iconst (v := (iI 0)) E dX6_firstSure_81 (by decide) ?_
              obtain ⟨r_6, w_7, hc, hm⟩ := bI_inv hm
              refine x_callV (As := [.ref (ad (n_4 + 5) 0), .ref (ad (n_5 + 5) 0), .int (rd w 0 0 4), .int (iI 0)]) (rest := []) E my_X3_lastBeaten wG493 (c_X3_lastBeaten l D cs ad hn_4 hn_5 hc) rfl rfl rfl ⟨Nat.le_of_ble_eq_true rfl, Nat.le_of_ble_eq_true rfl⟩ (Nat.le_of_ble_eq_true rfl) dX6_firstSure_82 ?_
              refine x_istore (lv' := [(5, .int r_6), (0, .ref (ad 0 0)), (1, .int b1), (2, .int b2), (3, .int b3), (4, .int b4)]) E dX6_firstSure_85 (by decide) rfl ?_
              refine x_iload_n E dX6_firstSure_87 rfl 4 rfl ?_
              refine x_iload E dX6_firstSure_88 0 rfl ?_
              refine x_iconst (v := (iI 1)) E dX6_firstSure_90 (by decide) ?_
              refine x_iadd E dX6_firstSure_91 ?_
              refine x_mmax E wG532 wG527 wG89 wG528 (Nat.le_of_ble_eq_true rfl) (Nat.le_of_ble_eq_true rfl) dX6_firstSure_92 ?_
              refine x_bI hm (fun x_8 hm => ?_)
              refine x_istore_n (lv' := [(3, .int x_8), (5, .int r_6), (0, .ref (ad 0 0)), (1, .int b1), (2, .int b2), (4, .int b4)]) E dX6_firstSure_95 rfl (by decide) rfl ?_
              refine x_iincB (lv' := fun x_9 => [(4, .int x_9), (3, .int x_8), (5, .int r_6), (0, .ref (ad 0 0)), (1, .int b1), (2, .int b2)]) (j := 5) E dX6_firstSure_96 rfl rfl (by decide) (fun _ => rfl) hm (fun x_9 hm => ?_)
              refine x_goto (tgt := 30) E dX6_firstSure_99 (by decide) ?_
              exact x_weak [3, 4, 5, 1, 0] rfl ((ih _ hk102) b1 b2 x_8 x_9 w_7 hm)
            · refine x_iconst (v := (iI 1)) E dX6_firstSure_77 (by decide) ?_
              refine x_goto (tgt := 82) E dX6_firstSure_78 (by decide) ?_
              obtain ⟨r_10, w_11, hc, hm⟩ := bI_inv hm
              refine x_callV (As := [.ref (ad (n_4 + 5) 0), .ref (ad (n_5 + 5) 0), .int (rd w 0 0 4), .int (iI 1)]) (rest := []) E my_X3_lastBeaten wG493 (c_X3_lastBeaten l D cs ad hn_4 hn_5 hc) rfl rfl rfl ⟨Nat.le_of_ble_eq_true rfl, Nat.le_of_ble_eq_true rfl⟩ (Nat.le_of_ble_eq_true rfl) dX6_firstSure_82 ?_
              refine x_istore (lv' := [(5, .int r_10), (0, .ref (ad 0 0)), (1, .int b1), (2, .int b2), (3, .int b3), (4, .int b4)]) E dX6_firstSure_85 (by decide) rfl ?_
              refine x_iload_n E dX6_firstSure_87 rfl 4 rfl ?_
              refine x_iload E dX6_firstSure_88 0 rfl ?_
              refine x_iconst (v := (iI 1)) E dX6_firstSure_90 (by decide) ?_
              refine x_iadd E dX6_firstSure_91 ?_
              refine x_mmax E wG532 wG527 wG89 wG528 (Nat.le_of_ble_eq_true rfl) (Nat.le_of_ble_eq_true rfl) dX6_firstSure_92 ?_
              refine x_bI hm (fun x_12 hm => ?_)
              refine x_istore_n (lv' := [(3, .int x_12), (5, .int r_10), (0, .ref (ad 0 0)), (1, .int b1), (2, .int b2), (4, .int b4)]) E dX6_firstSure_95 rfl (by decide) rfl ?_
              refine x_iincB (lv' := fun x_13 => [(4, .int x_13), (3, .int x_12), (5, .int r_10), (0, .ref (ad 0 0)), (1, .int b1), (2, .int b2)]) (j := 5) E dX6_firstSure_96 rfl rfl (by decide) (fun _ => rfl) hm (fun x_13 hm => ?_)
              refine x_goto (tgt := 30) E dX6_firstSure_99 (by decide) ?_
              exact x_weak [3, 4, 5, 1, 0] rfl ((ih _ hk102) b1 b2 x_12 x_13 w_11 hm)
  have hL102 : ∀ (b2 : Int32) (b3 : Int32) (w : Wd), X6_firstSure_L102 b2 b3 w = some (r, w') → XV p l e { frames := 4, cells := 0, slots := 0, locals := 163 } s m args below meth c 6 D cs ad (MQ below (xQ D cs ad (some (.int r)) w') args s 0 0 (xF ad)) 102 [(2, .int b2), (3, .int b3)] [] w := by
    intro b2 b3 w hm
    unfold X6_firstSure_L102 at hm
    refine x_iload_n E dX6_firstSure_102 rfl 1 rfl ?_
    refine x_iload_n E dX6_firstSure_103 rfl 0 rfl ?_
    refine x_icmp_gt (tgt := 111) E dX6_firstSure_104 (by decide) hm (fun _ hm => ?_) (fun _ hm => ?_)
    · refine x_iconst (v := (iI (-1))) E dX6_firstSure_111 (by decide) ?_
      exact x_iretS E hm dX6_firstSure_112
    · refine x_iload_n E dX6_firstSure_107 rfl 1 rfl ?_
      refine x_goto (tgt := 112) E dX6_firstSure_108 (by decide) ?_
      exact x_iretS E hm dX6_firstSure_112
  unfold X6_firstSure at hm
  refine x_aload_n E dX6_firstSure_0 rfl 0 rfl ?_
  refine x_gf (v := .ref (ad 9 0)) E fr_X6_54 rfl rfl dX6_firstSure_1 ?_
  refine x_aload_n E dX6_firstSure_4 rfl 0 rfl ?_
  refine x_gf (v := .ref (ad 0 4)) E fr_X6_34 rfl rfl dX6_firstSure_5 ?_
  refine x_iload_n E dX6_firstSure_8 rfl 1 rfl ?_
  refine x_aaldR E dX6_firstSure_9 hm (fun n_1 hn_1 hm => ?_)
  refine x_aload_n E dX6_firstSure_10 rfl 0 rfl ?_
  refine x_gf (v := .int (rd w 0 0 4)) E fr_X6_23 rfl rfl dX6_firstSure_11 ?_
  obtain ⟨r_2, hc, hm⟩ := ob_inv hm
  refine x_callV (As := [.ref (ad (n_1 + 5) 0), .int (rd w 0 0 4)]) (rest := []) E my_X3_lastHope wG473 (c_X3_lastHope l D cs ad hn_1 hc) rfl rfl rfl ⟨Nat.le_of_ble_eq_true rfl, Nat.le_of_ble_eq_true rfl⟩ (Nat.le_of_ble_eq_true rfl) dX6_firstSure_14 ?_
  refine x_istore_n (lv' := [(2, .int r_2), (0, .ref (ad 0 0)), (1, .int a1)]) E dX6_firstSure_17 rfl (by decide) rfl ?_
  refine x_iload_n E dX6_firstSure_18 rfl 0 rfl ?_
  refine x_iconst (v := (iI (-1))) E dX6_firstSure_19 (by decide) ?_
  refine x_icmp_ne (tgt := 25) E dX6_firstSure_20 (by decide) hm (fun _ hm => ?_) (fun _ hm => ?_)
  · refine x_iconst (v := (iI 0)) E dX6_firstSure_25 (by decide) ?_
    refine x_istore_n (lv' := [(3, .int (iI 0)), (2, .int r_2), (0, .ref (ad 0 0)), (1, .int a1)]) E dX6_firstSure_26 rfl (by decide) rfl ?_
    refine x_iconst (v := (iI 0)) E dX6_firstSure_27 (by decide) ?_
    refine x_istore (lv' := [(4, .int (iI 0)), (3, .int (iI 0)), (2, .int r_2), (0, .ref (ad 0 0)), (1, .int a1)]) E dX6_firstSure_28 (by decide) rfl ?_
    exact x_weak [3, 4, 2, 1, 0] rfl ((hL30 1000 _ (hL102)) a1 r_2 (iI 0) (iI 0) w hm)
  · refine x_iconst (v := (iI (-1))) E dX6_firstSure_23 (by decide) ?_
    exact x_iretS E hm dX6_firstSure_24
set_option maxRecDepth 100000 in
set_option maxHeartbeats 4000000 in
theorem c_X6_isAhead (l : Launch) (D : va_G) (cs : vCs) (ad : Nat → Nat → Nat) {w : Wd} {a1 : Int32} {a2 : Int32} {r : Int32} (hm : X6_isAhead w a1 a2 = some r) : Mc l yX6_isAhead cX6_isAhead 5 (some .boolean) 3 60 D cs ad [.ref (ad 0 0), .int a1, .int a2] w (some (.int r)) w := by
  refine Mc.of (by decide) (Nat.le_of_ble_eq_true rfl) ?_
  intro p e s m args below meth c E
  replace E : EV p m c cX6_isAhead 5 s args RX6 yX6_isAhead (some .boolean) meth D cs ad := E
  unfold X6_isAhead at hm
  refine x_aload_n E dX6_isAhead_0 rfl 0 rfl ?_
  refine x_gf (v := .ref (ad 0 4)) E fr_X6_34 rfl rfl dX6_isAhead_1 ?_
  refine x_iload_n E dX6_isAhead_4 rfl 1 rfl ?_
  refine x_aaldR E dX6_isAhead_5 hm (fun n_1 hn_1 hm => ?_)
  refine x_astore_n (lv' := [(3, .ref (ad (n_1 + 5) 0)), (0, .ref (ad 0 0)), (1, .int a1), (2, .int a2)]) E dX6_isAhead_6 rfl (by decide) rfl ?_
  refine x_aload_n E dX6_isAhead_7 rfl 1 rfl ?_
  refine x_gf (v := .ref (ad 0 4)) E fr_X6_34 rfl rfl dX6_isAhead_8 ?_
  refine x_iload_n E dX6_isAhead_11 rfl 3 rfl ?_
  refine x_aaldR E dX6_isAhead_12 hm (fun n_2 hn_2 hm => ?_)
  refine x_astore (lv' := [(4, .ref (ad (n_2 + 5) 0)), (3, .ref (ad (n_1 + 5) 0)), (0, .ref (ad 0 0)), (1, .int a1), (2, .int a2)]) E dX6_isAhead_13 (by decide) rfl ?_
  refine x_aload_n E dX6_isAhead_15 rfl 1 rfl ?_
  obtain ⟨r_3, hc, hm⟩ := ob_inv hm
  refine x_callV (As := []) (rest := []) E my_X5_group wG541 (c_X5_group l D cs ad hn_1 hc) hn_1 rfl rfl ⟨Nat.le_of_ble_eq_true rfl, Nat.le_of_ble_eq_true rfl⟩ (Nat.le_of_ble_eq_true rfl) dX6_isAhead_16 ?_
  refine x_aload E dX6_isAhead_19 0 rfl ?_
  obtain ⟨r_4, hc, hm⟩ := ob_inv hm
  refine x_callV (As := []) (rest := [.int r_3]) E my_X5_group wG541 (c_X5_group l D cs ad hn_2 hc) hn_2 rfl rfl ⟨Nat.le_of_ble_eq_true rfl, Nat.le_of_ble_eq_true rfl⟩ (Nat.le_of_ble_eq_true rfl) dX6_isAhead_21 ?_
  refine x_icmp_eq (tgt := 45) E dX6_isAhead_24 (by decide) hm (fun _ hm => ?_) (fun _ hm => ?_)
  · refine x_aload_n E dX6_isAhead_45 rfl 1 rfl ?_
    obtain ⟨r_5, hc, hm⟩ := ob_inv hm
    refine x_callV (As := []) (rest := []) E my_X5_weight wG461 (c_X5_weight l D cs ad hn_1 hc) hn_1 rfl rfl ⟨Nat.le_of_ble_eq_true rfl, Nat.le_of_ble_eq_true rfl⟩ (Nat.le_of_ble_eq_true rfl) dX6_isAhead_46 ?_
    refine x_aload E dX6_isAhead_49 0 rfl ?_
    obtain ⟨r_6, hc, hm⟩ := ob_inv hm
    refine x_callV (As := []) (rest := [.int r_5]) E my_X5_weight wG461 (c_X5_weight l D cs ad hn_2 hc) hn_2 rfl rfl ⟨Nat.le_of_ble_eq_true rfl, Nat.le_of_ble_eq_true rfl⟩ (Nat.le_of_ble_eq_true rfl) dX6_isAhead_51 ?_
    refine x_icmp_eq (tgt := 75) E dX6_isAhead_54 (by decide) hm (fun _ hm => ?_) (fun _ hm => ?_)
    · refine x_iload_n E dX6_isAhead_75 rfl 3 rfl ?_
      refine x_iload_n E dX6_isAhead_76 rfl 4 rfl ?_
      refine x_icmp_ge (tgt := 84) E dX6_isAhead_77 (by decide) hm (fun _ hm => ?_) (fun _ hm => ?_)
      · refine x_iconst (v := (iI 0)) E dX6_isAhead_84 (by decide) ?_
        exact x_zretP E rfl hm dX6_isAhead_85
      · refine x_iconst (v := (iI 1)) E dX6_isAhead_80 (by decide) ?_
        refine x_goto (tgt := 85) E dX6_isAhead_81 (by decide) ?_
        exact x_zretP E rfl hm dX6_isAhead_85
    · refine x_aload_n E dX6_isAhead_57 rfl 1 rfl ?_
      obtain ⟨r_7, hc, hm⟩ := ob_inv hm
      refine x_callV (As := []) (rest := []) E my_X5_weight wG461 (c_X5_weight l D cs ad hn_1 hc) hn_1 rfl rfl ⟨Nat.le_of_ble_eq_true rfl, Nat.le_of_ble_eq_true rfl⟩ (Nat.le_of_ble_eq_true rfl) dX6_isAhead_58 ?_
      refine x_aload E dX6_isAhead_61 0 rfl ?_
      obtain ⟨r_8, hc, hm⟩ := ob_inv hm
      refine x_callV (As := []) (rest := [.int r_7]) E my_X5_weight wG461 (c_X5_weight l D cs ad hn_2 hc) hn_2 rfl rfl ⟨Nat.le_of_ble_eq_true rfl, Nat.le_of_ble_eq_true rfl⟩ (Nat.le_of_ble_eq_true rfl) dX6_isAhead_63 ?_
      refine x_icmp_le (tgt := 73) E dX6_isAhead_66 (by decide) hm (fun _ hm => ?_) (fun _ hm => ?_)
      · refine x_iconst (v := (iI 0)) E dX6_isAhead_73 (by decide) ?_
        exact x_zretP E rfl hm dX6_isAhead_74
      · refine x_iconst (v := (iI 1)) E dX6_isAhead_69 (by decide) ?_
        refine x_goto (tgt := 74) E dX6_isAhead_70 (by decide) ?_
        exact x_zretP E rfl hm dX6_isAhead_74
  · refine x_aload_n E dX6_isAhead_27 rfl 1 rfl ?_
    obtain ⟨r_9, hc, hm⟩ := ob_inv hm
    refine x_callV (As := []) (rest := []) E my_X5_group wG541 (c_X5_group l D cs ad hn_1 hc) hn_1 rfl rfl ⟨Nat.le_of_ble_eq_true rfl, Nat.le_of_ble_eq_true rfl⟩ (Nat.le_of_ble_eq_true rfl) dX6_isAhead_28 ?_
    refine x_aload E dX6_isAhead_31 0 rfl ?_
    obtain ⟨r_10, hc, hm⟩ := ob_inv hm
    refine x_callV (As := []) (rest := [.int r_9]) E my_X5_group wG541 (c_X5_group l D cs ad hn_2 hc) hn_2 rfl rfl ⟨Nat.le_of_ble_eq_true rfl, Nat.le_of_ble_eq_true rfl⟩ (Nat.le_of_ble_eq_true rfl) dX6_isAhead_33 ?_
    refine x_icmp_ge (tgt := 43) E dX6_isAhead_36 (by decide) hm (fun _ hm => ?_) (fun _ hm => ?_)
    · refine x_iconst (v := (iI 0)) E dX6_isAhead_43 (by decide) ?_
      exact x_zretP E rfl hm dX6_isAhead_44
    · refine x_iconst (v := (iI 1)) E dX6_isAhead_39 (by decide) ?_
      refine x_goto (tgt := 44) E dX6_isAhead_40 (by decide) ?_
      exact x_zretP E rfl hm dX6_isAhead_44
set_option maxRecDepth 100000 in
set_option maxHeartbeats 4000000 in
theorem c_X6_placeInRanking (l : Launch) (D : va_G) (cs : vCs) (ad : Nat → Nat → Nat) {w : Wd} {a1 : Int32} {r : Int32} (hm : X6_placeInRanking w a1 = some r) : Mc l yX6_placeInRanking cX6_placeInRanking 4 (some .int) 4 84 D cs ad [.ref (ad 0 0), .int a1] w (some (.int r)) w := by
  refine Mc.of (by decide) (Nat.le_of_ble_eq_true rfl) ?_
  intro p e s m args below meth c E
  replace E : EV p m c cX6_placeInRanking 4 s args RX6 yX6_placeInRanking (some .int) meth D cs ad := E
  have hL4 : ∀ (fuel : Nat) (b1 : Int32) (b2 : Int32) (b3 : Int32) (w : Wd), X6_placeInRanking_L4 fuel b1 b2 b3 w = some r → XV p l e { frames := 4, cells := 0, slots := 0, locals := 84 } s m args below meth c 4 D cs ad (MQ below (xQ D cs ad (some (.int r)) w) args s 0 0 (xF ad)) 4 [(0, .ref (ad 0 0)), (1, .int b1), (2, .int b2), (3, .int b3)] [] w := by
    intro fuel
    induction fuel with
    | zero => intro b1 b2 b3 w hm; cases hm
    | succ fuel ih =>
      intro b1 b2 b3 w hm
      rw [X6_placeInRanking_L4] at hm
      refine x_iload_n E dX6_placeInRanking_4 rfl 3 rfl ?_
      refine x_aload_n E dX6_placeInRanking_5 rfl 0 rfl ?_
      refine x_gf (v := .int (rd w 0 0 7)) E fr_X6_42 rfl rfl dX6_placeInRanking_6 ?_
      refine x_icmp_ge (tgt := 30) E dX6_placeInRanking_9 (by decide) hm (fun _ hm => ?_) (fun _ hm => ?_)
      · refine x_iload_n E dX6_placeInRanking_30 rfl 2 rfl ?_
        exact x_iretP E hm dX6_placeInRanking_31
      · refine x_aload_n E dX6_placeInRanking_12 rfl 0 rfl ?_
        refine x_iload_n E dX6_placeInRanking_13 rfl 3 rfl ?_
        refine x_iload_n E dX6_placeInRanking_14 rfl 1 rfl ?_
        obtain ⟨r_1, hc, hm⟩ := ob_inv hm
        refine x_callV (As := [.int b3, .int b1]) (rest := []) E my_X6_isAhead wG537 (c_X6_isAhead l D cs ad hc) rfl rfl rfl ⟨Nat.le_of_ble_eq_true rfl, Nat.le_of_ble_eq_true rfl⟩ (Nat.le_of_ble_eq_true rfl) dX6_placeInRanking_15 ?_
        refine x_if_eq (tgt := 24) E dX6_placeInRanking_18 (by decide) hm (fun _ hm => ?_) (fun _ hm => ?_)
        · refine x_iincB (lv' := fun x_2 => [(3, .int x_2), (0, .ref (ad 0 0)), (1, .int b1), (2, .int b2)]) (j := 3) E dX6_placeInRanking_24 rfl rfl (by decide) (fun _ => rfl) hm (fun x_2 hm => ?_)
          refine x_goto (tgt := 4) E dX6_placeInRanking_27 (by decide) ?_
          exact x_weak [1, 2, 3, 0] rfl ((ih) b1 b2 x_2 w hm)
        · refine x_iincB (lv' := fun x_3 => [(2, .int x_3), (0, .ref (ad 0 0)), (1, .int b1), (3, .int b3)]) (j := 2) E dX6_placeInRanking_21 rfl rfl (by decide) (fun _ => rfl) hm (fun x_3 hm => ?_)
          refine x_iincB (lv' := fun x_4 => [(3, .int x_4), (2, .int x_3), (0, .ref (ad 0 0)), (1, .int b1)]) (j := 3) E dX6_placeInRanking_24 rfl rfl (by decide) (fun _ => rfl) hm (fun x_4 hm => ?_)
          refine x_goto (tgt := 4) E dX6_placeInRanking_27 (by decide) ?_
          exact x_weak [2, 3, 1, 0] rfl ((ih) b1 x_3 x_4 w hm)
  unfold X6_placeInRanking at hm
  refine x_iconst (v := (iI 0)) E dX6_placeInRanking_0 (by decide) ?_
  refine x_istore_n (lv' := [(2, .int (iI 0)), (0, .ref (ad 0 0)), (1, .int a1)]) E dX6_placeInRanking_1 rfl (by decide) rfl ?_
  refine x_iconst (v := (iI 0)) E dX6_placeInRanking_2 (by decide) ?_
  refine x_istore_n (lv' := [(3, .int (iI 0)), (2, .int (iI 0)), (0, .ref (ad 0 0)), (1, .int a1)]) E dX6_placeInRanking_3 rfl (by decide) rfl ?_
  exact x_weak [2, 3, 1, 0] rfl ((hL4 1000) a1 (iI 0) (iI 0) w hm)
set_option maxRecDepth 100000 in
set_option maxHeartbeats 4000000 in
theorem c_X6_about (l : Launch) (D : va_G) (cs : vCs) (ad : Nat → Nat → Nat) {w : Wd} {a1 : Int32} {a2 : Int32} {r : Int32} {w' : Wd} (hm : X6_about w a1 a2 = some (r, w')) : Mc l yX6_about cX6_about 4 (some .int) 5 188 D cs ad [.ref (ad 0 0), .int a1, .int a2] w (some (.int r)) w' := by
  refine Mc.of (by decide) (Nat.le_of_ble_eq_true rfl) ?_
  intro p e s m args below meth c E
  replace E : EV p m c cX6_about 4 s args RX6 yX6_about (some .int) meth D cs ad := E
  unfold X6_about at hm
  refine x_aload_n E dX6_about_0 rfl 0 rfl ?_
  refine x_iload_n E dX6_about_1 rfl 1 rfl ?_
  refine x_callV (As := [.int a1]) (rest := []) E my_X6_isCode wG398 (c_X6_isCode l D cs ad rfl) rfl rfl rfl ⟨Nat.le_of_ble_eq_true rfl, Nat.le_of_ble_eq_true rfl⟩ (Nat.le_of_ble_eq_true rfl) dX6_about_2 ?_
  refine x_if_ne (tgt := 11) E dX6_about_5 (by decide) hm (fun _ hm => ?_) (fun _ hm => ?_)
  · refine x_aload_n E dX6_about_11 rfl 0 rfl ?_
    refine x_gf (v := .ref (ad 0 4)) E fr_X6_34 rfl rfl dX6_about_12 ?_
    refine x_iload_n E dX6_about_15 rfl 1 rfl ?_
    refine x_aaldR E dX6_about_16 hm (fun n_1 hn_1 hm => ?_)
    refine x_astore_n (lv' := [(3, .ref (ad (n_1 + 5) 0)), (0, .ref (ad 0 0)), (1, .int a1), (2, .int a2)]) E dX6_about_17 rfl (by decide) rfl ?_
    refine x_iload_n E dX6_about_18 rfl 3 rfl ?_
    refine x_split hm (fun hx hm => ?_) (fun hs0 hm => ?_)
    · refine x_tin (kv := (iI 0)) (tgt := 64) E dX6_about_19 hx rfl (by decide) (by decide) rfl (by decide) ?_
      refine x_aload_n E dX6_about_64 rfl 1 rfl ?_
      refine x_gf (v := .ref (ad 0 3)) E fr_X6_28 rfl rfl dX6_about_65 ?_
      refine x_iload_n E dX6_about_68 rfl 2 rfl ?_
      refine x_aaldC E dX6_about_69 hm (fun n_2 hn_2 hm => ?_)
      refine x_callV (As := []) (rest := []) E my_X0_kind wG445 (c_X0_kind l D cs ad hn_2 rfl) hn_2 rfl rfl ⟨Nat.le_of_ble_eq_true rfl, Nat.le_of_ble_eq_true rfl⟩ (Nat.le_of_ble_eq_true rfl) dX6_about_70 ?_
      exact x_iretS E hm dX6_about_73
    refine x_split hm (fun hx hm => ?_) (fun hs1 hm => ?_)
    · refine x_tin (kv := (iI 1)) (tgt := 74) E dX6_about_19 hx rfl (by decide) (by decide) rfl (by decide) ?_
      refine x_aload_n E dX6_about_74 rfl 0 rfl ?_
      obtain ⟨r_3, hc, hm⟩ := ob_inv hm
      refine x_callV (As := []) (rest := []) E my_X5_isAlive wG449 (c_X5_isAlive l D cs ad hn_1 hc) hn_1 rfl rfl ⟨Nat.le_of_ble_eq_true rfl, Nat.le_of_ble_eq_true rfl⟩ (Nat.le_of_ble_eq_true rfl) dX6_about_75 ?_
      refine x_if_eq (tgt := 85) E dX6_about_78 (by decide) hm (fun _ hm => ?_) (fun _ hm => ?_)
      · refine x_iconst (v := (iI 0)) E dX6_about_85 (by decide) ?_
        exact x_iretS E hm dX6_about_86
      · refine x_iconst (v := (iI 1)) E dX6_about_81 (by decide) ?_
        refine x_goto (tgt := 86) E dX6_about_82 (by decide) ?_
        exact x_iretS E hm dX6_about_86
    refine x_split hm (fun hx hm => ?_) (fun hs2 hm => ?_)
    · refine x_tin (kv := (iI 2)) (tgt := 87) E dX6_about_19 hx rfl (by decide) (by decide) rfl (by decide) ?_
      refine x_aload_n E dX6_about_87 rfl 0 rfl ?_
      obtain ⟨r_4, hc, hm⟩ := ob_inv hm
      refine x_callV (As := []) (rest := []) E my_X5_isValid wG453 (c_X5_isValid l D cs ad hn_1 hc) hn_1 rfl rfl ⟨Nat.le_of_ble_eq_true rfl, Nat.le_of_ble_eq_true rfl⟩ (Nat.le_of_ble_eq_true rfl) dX6_about_88 ?_
      refine x_if_eq (tgt := 98) E dX6_about_91 (by decide) hm (fun _ hm => ?_) (fun _ hm => ?_)
      · refine x_iconst (v := (iI 0)) E dX6_about_98 (by decide) ?_
        exact x_iretS E hm dX6_about_99
      · refine x_iconst (v := (iI 1)) E dX6_about_94 (by decide) ?_
        refine x_goto (tgt := 99) E dX6_about_95 (by decide) ?_
        exact x_iretS E hm dX6_about_99
    refine x_split hm (fun hx hm => ?_) (fun hs3 hm => ?_)
    · refine x_tin (kv := (iI 3)) (tgt := 100) E dX6_about_19 hx rfl (by decide) (by decide) rfl (by decide) ?_
      refine x_aload_n E dX6_about_100 rfl 0 rfl ?_
      refine x_callV (As := []) (rest := []) E my_X5_signCount wG457 (c_X5_signCount l D cs ad hn_1 rfl) hn_1 rfl rfl ⟨Nat.le_of_ble_eq_true rfl, Nat.le_of_ble_eq_true rfl⟩ (Nat.le_of_ble_eq_true rfl) dX6_about_101 ?_
      exact x_iretS E hm dX6_about_104
    refine x_split hm (fun hx hm => ?_) (fun hs4 hm => ?_)
    · refine x_tin (kv := (iI 4)) (tgt := 105) E dX6_about_19 hx rfl (by decide) (by decide) rfl (by decide) ?_
      refine x_aload_n E dX6_about_105 rfl 0 rfl ?_
      obtain ⟨r_5, hc, hm⟩ := ob_inv hm
      refine x_callV (As := []) (rest := []) E my_X5_weight wG461 (c_X5_weight l D cs ad hn_1 hc) hn_1 rfl rfl ⟨Nat.le_of_ble_eq_true rfl, Nat.le_of_ble_eq_true rfl⟩ (Nat.le_of_ble_eq_true rfl) dX6_about_106 ?_
      exact x_iretS E hm dX6_about_109
    refine x_split hm (fun hx hm => ?_) (fun hs5 hm => ?_)
    · refine x_tin (kv := (iI 5)) (tgt := 110) E dX6_about_19 hx rfl (by decide) (by decide) rfl (by decide) ?_
      refine x_aload_n E dX6_about_110 rfl 0 rfl ?_
      obtain ⟨r_6, hc, hm⟩ := ob_inv hm
      refine x_callV (As := []) (rest := []) E my_X5_isAlive wG449 (c_X5_isAlive l D cs ad hn_1 hc) hn_1 rfl rfl ⟨Nat.le_of_ble_eq_true rfl, Nat.le_of_ble_eq_true rfl⟩ (Nat.le_of_ble_eq_true rfl) dX6_about_111 ?_
      refine x_if_eq (tgt := 121) E dX6_about_114 (by decide) hm (fun _ hm => ?_) (fun _ hm => ?_)
      · refine x_aload_n E dX6_about_121 rfl 0 rfl ?_
        refine x_callV (As := []) (rest := []) E my_X5_allowedUnits wG465 (c_X5_allowedUnits l D cs ad hn_1 rfl) hn_1 rfl rfl ⟨Nat.le_of_ble_eq_true rfl, Nat.le_of_ble_eq_true rfl⟩ (Nat.le_of_ble_eq_true rfl) dX6_about_122 ?_
        exact x_iretS E hm dX6_about_125
      · refine x_iconst (v := (iI (-1))) E dX6_about_117 (by decide) ?_
        refine x_goto (tgt := 125) E dX6_about_118 (by decide) ?_
        exact x_iretS E hm dX6_about_125
    refine x_split hm (fun hx hm => ?_) (fun hs6 hm => ?_)
    · refine x_tin (kv := (iI 6)) (tgt := 126) E dX6_about_19 hx rfl (by decide) (by decide) rfl (by decide) ?_
      refine x_aload_n E dX6_about_126 rfl 1 rfl ?_
      refine x_iload_n E dX6_about_127 rfl 2 rfl ?_
      obtain ⟨r_7, w_8, hc, hm⟩ := bI_inv hm
      refine x_callV (As := [.int a1]) (rest := []) E my_X6_firstSure wG469 (c_X6_firstSure l D cs ad hc) rfl rfl rfl ⟨Nat.le_of_ble_eq_true rfl, Nat.le_of_ble_eq_true rfl⟩ (Nat.le_of_ble_eq_true rfl) dX6_about_128 ?_
      exact x_iretS E hm dX6_about_131
    refine x_split hm (fun hx hm => ?_) (fun hs7 hm => ?_)
    · refine x_tin (kv := (iI 7)) (tgt := 132) E dX6_about_19 hx rfl (by decide) (by decide) rfl (by decide) ?_
      refine x_aload_n E dX6_about_132 rfl 1 rfl ?_
      refine x_iload_n E dX6_about_133 rfl 2 rfl ?_
      obtain ⟨r_9, hc, hm⟩ := ob_inv hm
      refine x_callV (As := [.int a1]) (rest := []) E my_X6_placeInRanking wG533 (c_X6_placeInRanking l D cs ad hc) rfl rfl rfl ⟨Nat.le_of_ble_eq_true rfl, Nat.le_of_ble_eq_true rfl⟩ (Nat.le_of_ble_eq_true rfl) dX6_about_134 ?_
      exact x_iretS E hm dX6_about_137
    refine x_tout (tgt := 138) E dX6_about_19 (by have := lv_neT (a := 0) hs0 rfl; have := lv_neT (a := 1) hs1 rfl; have := lv_neT (a := 2) hs2 rfl; have := lv_neT (a := 3) hs3 rfl; have := lv_neT (a := 4) hs4 rfl; have := lv_neT (a := 5) hs5 rfl; have := lv_neT (a := 6) hs6 rfl; have := lv_neT (a := 7) hs7 rfl; omega) (by decide) ?_
    refine x_bipush (v := (iI (-102))) E dX6_about_138 (by decide) ?_
    exact x_iretS E hm dX6_about_140
  · refine x_bipush (v := (iI (-101))) E dX6_about_8 (by decide) ?_
    exact x_iretS E hm dX6_about_10
set_option maxRecDepth 100000 in
set_option maxHeartbeats 4000000 in
theorem c_X6_aliveCodes (l : Launch) (D : va_G) (cs : vCs) (ad : Nat → Nat → Nat) {w : Wd} {r : Int32} (hm : X6_aliveCodes w = some r) : Mc l yX6_aliveCodes cX6_aliveCodes 3 (some .int) 1 20 D cs ad [.ref (ad 0 0)] w (some (.int r)) w := by
  refine Mc.of (by decide) (Nat.le_of_ble_eq_true rfl) ?_
  intro p e s m args below meth c E
  replace E : EV p m c cX6_aliveCodes 3 s args RX6 yX6_aliveCodes (some .int) meth D cs ad := E
  have hL4 : ∀ (fuel : Nat) (b1 : Int32) (b2 : Int32) (w : Wd), X6_aliveCodes_L4 fuel b1 b2 w = some r → XV p l e { frames := 1, cells := 0, slots := 0, locals := 20 } s m args below meth c 3 D cs ad (MQ below (xQ D cs ad (some (.int r)) w) args s 0 0 (xF ad)) 4 [(0, .ref (ad 0 0)), (1, .int b1), (2, .int b2)] [] w := by
    intro fuel
    induction fuel with
    | zero => intro b1 b2 w hm; cases hm
    | succ fuel ih =>
      intro b1 b2 w hm
      rw [X6_aliveCodes_L4] at hm
      refine x_iload_n E dX6_aliveCodes_4 rfl 2 rfl ?_
      refine x_aload_n E dX6_aliveCodes_5 rfl 0 rfl ?_
      refine x_gf (v := .int (rd w 0 0 7)) E fr_X6_42 rfl rfl dX6_aliveCodes_6 ?_
      refine x_icmp_ge (tgt := 33) E dX6_aliveCodes_9 (by decide) hm (fun _ hm => ?_) (fun _ hm => ?_)
      · refine x_iload_n E dX6_aliveCodes_33 rfl 1 rfl ?_
        exact x_iretP E hm dX6_aliveCodes_34
      · refine x_aload_n E dX6_aliveCodes_12 rfl 0 rfl ?_
        refine x_gf (v := .ref (ad 0 4)) E fr_X6_34 rfl rfl dX6_aliveCodes_13 ?_
        refine x_iload_n E dX6_aliveCodes_16 rfl 2 rfl ?_
        refine x_aaldR E dX6_aliveCodes_17 hm (fun n_1 hn_1 hm => ?_)
        obtain ⟨r_2, hc, hm⟩ := ob_inv hm
        refine x_callV (As := []) (rest := []) E my_X5_isAlive wG449 (c_X5_isAlive l D cs ad hn_1 hc) hn_1 rfl rfl ⟨Nat.le_of_ble_eq_true rfl, Nat.le_of_ble_eq_true rfl⟩ (Nat.le_of_ble_eq_true rfl) dX6_aliveCodes_18 ?_
        refine x_if_eq (tgt := 27) E dX6_aliveCodes_21 (by decide) hm (fun _ hm => ?_) (fun _ hm => ?_)
        · refine x_iincB (lv' := fun x_3 => [(2, .int x_3), (0, .ref (ad 0 0)), (1, .int b1)]) (j := 2) E dX6_aliveCodes_27 rfl rfl (by decide) (fun _ => rfl) hm (fun x_3 hm => ?_)
          refine x_goto (tgt := 4) E dX6_aliveCodes_30 (by decide) ?_
          exact x_weak [1, 2, 0] rfl ((ih) b1 x_3 w hm)
        · refine x_iincB (lv' := fun x_4 => [(1, .int x_4), (0, .ref (ad 0 0)), (2, .int b2)]) (j := 1) E dX6_aliveCodes_24 rfl rfl (by decide) (fun _ => rfl) hm (fun x_4 hm => ?_)
          refine x_iincB (lv' := fun x_5 => [(2, .int x_5), (1, .int x_4), (0, .ref (ad 0 0))]) (j := 2) E dX6_aliveCodes_27 rfl rfl (by decide) (fun _ => rfl) hm (fun x_5 hm => ?_)
          refine x_goto (tgt := 4) E dX6_aliveCodes_30 (by decide) ?_
          exact x_weak [2, 1, 0] rfl ((ih) x_4 x_5 w hm)
  unfold X6_aliveCodes at hm
  refine x_iconst (v := (iI 0)) E dX6_aliveCodes_0 (by decide) ?_
  refine x_istore_n (lv' := [(1, .int (iI 0)), (0, .ref (ad 0 0))]) E dX6_aliveCodes_1 rfl (by decide) rfl ?_
  refine x_iconst (v := (iI 0)) E dX6_aliveCodes_2 (by decide) ?_
  refine x_istore_n (lv' := [(2, .int (iI 0)), (1, .int (iI 0)), (0, .ref (ad 0 0))]) E dX6_aliveCodes_3 rfl (by decide) rfl ?_
  exact x_weak [2, 1, 0] rfl ((hL4 1000) (iI 0) (iI 0) w hm)
set_option maxRecDepth 100000 in
set_option maxHeartbeats 4000000 in
theorem c_X6_apart (l : Launch) (D : va_G) (cs : vCs) (ad : Nat → Nat → Nat) {w : Wd} {a1 : Int32} {a2 : Int32} {r : Int32} {w' : Wd} (hm : X6_apart w a1 a2 = some (r, w')) : Mc l yX6_apart cX6_apart 3 (some .int) 4 104 D cs ad [.ref (ad 0 0), .int a1, .int a2] w (some (.int r)) w' := by
  refine Mc.of (by decide) (Nat.le_of_ble_eq_true rfl) ?_
  intro p e s m args below meth c E
  replace E : EV p m c cX6_apart 3 s args RX6 yX6_apart (some .int) meth D cs ad := E
  unfold X6_apart at hm
  refine x_aload_n E dX6_apart_0 rfl 0 rfl ?_
  refine x_iload_n E dX6_apart_1 rfl 1 rfl ?_
  refine x_callV (As := [.int a1]) (rest := []) E my_X6_isCode wG398 (c_X6_isCode l D cs ad rfl) rfl rfl rfl ⟨Nat.le_of_ble_eq_true rfl, Nat.le_of_ble_eq_true rfl⟩ (Nat.le_of_ble_eq_true rfl) dX6_apart_2 ?_
  refine x_if_eq (tgt := 16) E dX6_apart_5 (by decide) hm (fun _ hm => ?_) (fun _ hm => ?_)
  · refine x_bipush (v := (iI (-101))) E dX6_apart_16 (by decide) ?_
    exact x_iretS E hm dX6_apart_18
  · refine x_aload_n E dX6_apart_8 rfl 0 rfl ?_
    refine x_iload_n E dX6_apart_9 rfl 2 rfl ?_
    refine x_callV (As := [.int a2]) (rest := []) E my_X6_isCode wG398 (c_X6_isCode l D cs ad rfl) rfl rfl rfl ⟨Nat.le_of_ble_eq_true rfl, Nat.le_of_ble_eq_true rfl⟩ (Nat.le_of_ble_eq_true rfl) dX6_apart_10 ?_
    refine x_if_ne (tgt := 19) E dX6_apart_13 (by decide) hm (fun _ hm => ?_) (fun _ hm => ?_)
    · refine x_aload_n E dX6_apart_19 rfl 0 rfl ?_
      refine x_gf (v := .ref (ad 10 0)) E fr_X6_61 rfl rfl dX6_apart_20 ?_
      refine x_aload_n E dX6_apart_23 rfl 0 rfl ?_
      refine x_gf (v := .ref (ad 0 3)) E fr_X6_28 rfl rfl dX6_apart_24 ?_
      refine x_iload_n E dX6_apart_27 rfl 1 rfl ?_
      refine x_aaldC E dX6_apart_28 hm (fun n_1 hn_1 hm => ?_)
      refine x_aload_n E dX6_apart_29 rfl 0 rfl ?_
      refine x_gf (v := .ref (ad 0 3)) E fr_X6_28 rfl rfl dX6_apart_30 ?_
      refine x_iload_n E dX6_apart_33 rfl 2 rfl ?_
      refine x_aaldC E dX6_apart_34 hm (fun n_2 hn_2 hm => ?_)
      obtain ⟨r_3, w_4, hc, hm⟩ := bI_inv hm
      refine x_callV (As := [.ref (ad (n_1 + 1) 0), .ref (ad (n_2 + 1) 0)]) (rest := []) E my_X4_search wG588 (c_X4_search l D cs ad hn_1 hn_2 hc) rfl rfl rfl ⟨Nat.le_of_ble_eq_true rfl, Nat.le_of_ble_eq_true rfl⟩ (Nat.le_of_ble_eq_true rfl) dX6_apart_35 ?_
      refine x_if_eq (tgt := 51) E dX6_apart_38 (by decide) hm (fun _ hm => ?_) (fun _ hm => ?_)
      · refine x_iconst (v := (iI (-1))) E dX6_apart_51 (by decide) ?_
        exact x_iretS E hm dX6_apart_52
      · refine x_aload_n E dX6_apart_41 rfl 0 rfl ?_
        refine x_gf (v := .ref (ad 10 0)) E fr_X6_61 rfl rfl dX6_apart_42 ?_
        refine x_callV (As := []) (rest := []) E my_X4_rowLength wG609 (c_X4_rowLength l D cs ad rfl) rfl rfl rfl ⟨Nat.le_of_ble_eq_true rfl, Nat.le_of_ble_eq_true rfl⟩ (Nat.le_of_ble_eq_true rfl) dX6_apart_45 ?_
        refine x_goto (tgt := 52) E dX6_apart_48 (by decide) ?_
        exact x_iretS E hm dX6_apart_52
    · refine x_bipush (v := (iI (-101))) E dX6_apart_16 (by decide) ?_
      exact x_iretS E hm dX6_apart_18
set_option maxRecDepth 100000 in
set_option maxHeartbeats 4000000 in
theorem c_X6_readAgain (l : Launch) (D : va_G) (cs : vCs) (ad : Nat → Nat → Nat) {w : Wd} {w' : Wd} (hm : X6_readAgain w = some w') : Mc l yX6_readAgain cX6_readAgain 2 none 4 104 D cs ad [.ref (ad 0 0)] w none w' := by
  refine Mc.of (by decide) (Nat.le_of_ble_eq_true rfl) ?_
  intro p e s m args below meth c E
  replace E : EV p m c cX6_readAgain 2 s args RX6 yX6_readAgain none meth D cs ad := E
  have hL2 : ∀ (fuel : Nat) (b1 : Int32) (w : Wd), X6_readAgain_L2 fuel b1 w = some w' → XV p l e { frames := 4, cells := 0, slots := 0, locals := 104 } s m args below meth c 2 D cs ad (MQ below (xQ D cs ad none w') args s 0 0 (xF ad)) 2 [(0, .ref (ad 0 0)), (1, .int b1)] [] w := by
    intro fuel
    induction fuel with
    | zero => intro b1 w hm; cases hm
    | succ fuel ih =>
      intro b1 w hm
      rw [X6_readAgain_L2] at hm
      refine x_iload_n E dX6_readAgain_2 rfl 1 rfl ?_
      refine x_aload_n E dX6_readAgain_3 rfl 0 rfl ?_
      refine x_gf (v := .int (rd w 0 0 7)) E fr_X6_42 rfl rfl dX6_readAgain_4 ?_
      refine x_icmp_ge (tgt := 33) E dX6_readAgain_7 (by decide) hm (fun _ hm => ?_) (fun _ hm => ?_)
      · exact x_vretS E hm dX6_readAgain_33
      · refine x_aload_n E dX6_readAgain_10 rfl 0 rfl ?_
        refine x_gf (v := .ref (ad 0 4)) E fr_X6_34 rfl rfl dX6_readAgain_11 ?_
        refine x_iload_n E dX6_readAgain_14 rfl 1 rfl ?_
        refine x_aaldR E dX6_readAgain_15 hm (fun n_1 hn_1 hm => ?_)
        refine x_aload_n E dX6_readAgain_16 rfl 0 rfl ?_
        refine x_gf (v := .ref (ad 0 2)) E fr_X6_17 rfl rfl dX6_readAgain_17 ?_
        refine x_aload_n E dX6_readAgain_20 rfl 0 rfl ?_
        refine x_gf (v := .int (rd w 0 0 3)) E fr_X6_20 rfl rfl dX6_readAgain_21 ?_
        obtain ⟨w_2, hc, hm⟩ := ob_inv hm
        refine x_callV (As := [.ref (ad 0 2), .int (rd w 0 0 3)]) (rest := []) E my_X5_follow wG351 (c_X5_follow l D cs ad hn_1 hc) hn_1 rfl rfl ⟨Nat.le_of_ble_eq_true rfl, Nat.le_of_ble_eq_true rfl⟩ (Nat.le_of_ble_eq_true rfl) dX6_readAgain_24 ?_
        refine x_iincB (lv' := fun x_3 => [(1, .int x_3), (0, .ref (ad 0 0))]) (j := 1) E dX6_readAgain_27 rfl rfl (by decide) (fun _ => rfl) hm (fun x_3 hm => ?_)
        refine x_goto (tgt := 2) E dX6_readAgain_30 (by decide) ?_
        exact x_weak [1, 0] rfl ((ih) x_3 w_2 hm)
  unfold X6_readAgain at hm
  refine x_iconst (v := (iI 0)) E dX6_readAgain_0 (by decide) ?_
  refine x_istore_n (lv' := [(1, .int (iI 0)), (0, .ref (ad 0 0))]) E dX6_readAgain_1 rfl (by decide) rfl ?_
  exact x_weak [1, 0] rfl ((hL2 1000) (iI 0) w hm)
set_option maxRecDepth 100000 in
set_option maxHeartbeats 4000000 in
theorem c_X6_back (l : Launch) (D : va_G) (cs : vCs) (ad : Nat → Nat → Nat) {w : Wd} {r : Int32} {w' : Wd} (hm : X6_back w = some (r, w')) : Mc l yX6_back cX6_back 1 (some .int) 5 125 D cs ad [.ref (ad 0 0)] w (some (.int r)) w' := by
  refine Mc.of (by decide) (Nat.le_of_ble_eq_true rfl) ?_
  intro p e s m args below meth c E
  replace E : EV p m c cX6_back 1 s args RX6 yX6_back (some .int) meth D cs ad := E
  unfold X6_back at hm
  refine x_aload_n E dX6_back_0 rfl 0 rfl ?_
  refine x_gf (v := .int (rd w 0 0 3)) E fr_X6_20 rfl rfl dX6_back_1 ?_
  refine x_if_gt (tgt := 10) E dX6_back_4 (by decide) hm (fun _ hm => ?_) (fun _ hm => ?_)
  · refine x_aload_n E dX6_back_10 rfl 0 rfl ?_
    refine x_dup E dX6_back_11 rfl ?_
    refine x_gf (v := .int (rd w 0 0 3)) E fr_X6_20 rfl rfl dX6_back_12 ?_
    refine x_iconst (v := (iI 1)) E dX6_back_15 (by decide) ?_
    refine x_isub E dX6_back_16 ?_
    refine x_pf E fr_X6_20 rfl (by decide) rfl rfl dX6_back_17 ?_
    refine x_bW hm (fun w_1 hm => ?_)
    refine x_aload_n E dX6_back_20 rfl 0 rfl ?_
    obtain ⟨w_2, hc, hm⟩ := ob_inv hm
    refine x_callV (As := []) (rest := []) E my_X6_readAgain wG414 (c_X6_readAgain l D cs ad hc) rfl rfl rfl ⟨Nat.le_of_ble_eq_true rfl, Nat.le_of_ble_eq_true rfl⟩ (Nat.le_of_ble_eq_true rfl) dX6_back_21 ?_
    refine x_aload_n E dX6_back_24 rfl 0 rfl ?_
    refine x_gf (v := .int (rd w_2 0 0 3)) E fr_X6_20 rfl rfl dX6_back_25 ?_
    exact x_iretS E hm dX6_back_28
  · refine x_bipush (v := (iI (-103))) E dX6_back_7 (by decide) ?_
    exact x_iretS E hm dX6_back_9
set_option maxRecDepth 100000 in
set_option maxHeartbeats 4000000 in
theorem c_X6_blank (l : Launch) (D : va_G) (cs : vCs) (ad : Nat → Nat → Nat) {w : Wd} {r : Int32} {w' : Wd} (hm : X6_blank w = some (r, w')) : Mc l yX6_blank cX6_blank 2 (some .int) 0 0 D cs ad [.ref (ad 0 0)] w (some (.int r)) w' := by
  refine Mc.of (by decide) (Nat.le_of_ble_eq_true rfl) ?_
  intro p e s m args below meth c E
  replace E : EV p m c cX6_blank 2 s args RX6 yX6_blank (some .int) meth D cs ad := E
  unfold X6_blank at hm
  refine x_aload_n E dX6_blank_0 rfl 0 rfl ?_
  refine x_gf (v := .int (rd w 0 0 1)) E fr_X6_13 rfl rfl dX6_blank_1 ?_
  refine x_bI hm (fun x_1 hm => ?_)
  refine x_istore_n (lv' := [(1, .int x_1), (0, .ref (ad 0 0))]) E dX6_blank_4 rfl (by decide) rfl ?_
  refine x_aload_n E dX6_blank_5 rfl 1 rfl ?_
  refine x_iconst (v := (iI 0)) E dX6_blank_6 (by decide) ?_
  refine x_pf E fr_X6_13 rfl (by decide) rfl rfl dX6_blank_7 ?_
  refine x_bW hm (fun w_2 hm => ?_)
  refine x_iload_n E dX6_blank_10 rfl 0 rfl ?_
  exact x_iretS E hm dX6_blank_11
set_option maxRecDepth 100000 in
set_option maxHeartbeats 4000000 in
theorem c_X6_code (l : Launch) (D : va_G) (cs : vCs) (ad : Nat → Nat → Nat) {w : Wd} {r : Int32} {w' : Wd} (hm : X6_code w = some (r, w')) : Mc l yX6_code cX6_code 2 (some .int) 6 127 D cs ad [.ref (ad 0 0)] w (some (.int r)) w' := by
  refine Mc.of (by decide) (Nat.le_of_ble_eq_true rfl) ?_
  intro p e s m args below meth c E
  replace E : EV p m c cX6_code 2 s args RX6 yX6_code (some .int) meth D cs ad := E
  unfold X6_code at hm
  refine x_aload_n E dX6_code_0 rfl 0 rfl ?_
  refine x_gf (v := .ref (ad 0 1)) E fr_X6_9 rfl rfl dX6_code_1 ?_
  refine x_aload_n E dX6_code_4 rfl 0 rfl ?_
  refine x_gf (v := .int (rd w 0 0 1)) E fr_X6_13 rfl rfl dX6_code_5 ?_
  obtain ⟨r_1, hc, hm⟩ := ob_inv hm
  refine x_callS (As := [.ref (ad 0 1), .int (rd w 0 0 1)]) (rest := []) E my_X2_isWhole wG306 (c_X2_isWhole l D cs ad hc) rfl ⟨Nat.le_of_ble_eq_true rfl, Nat.le_of_ble_eq_true rfl⟩ (Nat.le_of_ble_eq_true rfl) dX6_code_8 ?_
  refine x_if_ne (tgt := 17) E dX6_code_11 (by decide) hm (fun _ hm => ?_) (fun _ hm => ?_)
  · refine x_aload_n E dX6_code_17 rfl 0 rfl ?_
    refine x_gf (v := .int (rd w 0 0 7)) E fr_X6_42 rfl rfl dX6_code_18 ?_
    refine x_iconst (v := (iI 4)) E dX6_code_21 (by decide) ?_
    refine x_icmp_lt (tgt := 28) E dX6_code_22 (by decide) hm (fun _ hm => ?_) (fun _ hm => ?_)
    · refine x_aload_n E dX6_code_28 rfl 0 rfl ?_
      refine x_gf (v := .int (rd w 0 0 7)) E fr_X6_42 rfl rfl dX6_code_29 ?_
      refine x_bI hm (fun x_2 hm => ?_)
      refine x_istore_n (lv' := [(1, .int x_2), (0, .ref (ad 0 0))]) E dX6_code_32 rfl (by decide) rfl ?_
      refine x_aload_n E dX6_code_33 rfl 1 rfl ?_
      refine x_gf (v := .ref (ad 0 3)) E fr_X6_28 rfl rfl dX6_code_34 ?_
      refine x_iload_n E dX6_code_37 rfl 0 rfl ?_
      refine x_aaldC E dX6_code_38 hm (fun n_3 hn_3 hm => ?_)
      refine x_aload_n E dX6_code_39 rfl 1 rfl ?_
      refine x_gf (v := .ref (ad 0 1)) E fr_X6_9 rfl rfl dX6_code_40 ?_
      refine x_aload_n E dX6_code_43 rfl 1 rfl ?_
      refine x_gf (v := .int (rd w 0 0 1)) E fr_X6_13 rfl rfl dX6_code_44 ?_
      obtain ⟨w_4, hc, hm⟩ := ob_inv hm
      refine x_callV (As := [.ref (ad 0 1), .int (rd w 0 0 1)]) (rest := []) E my_X0_load wG310 (c_X0_load l D cs ad hn_3 hc) hn_3 rfl rfl ⟨Nat.le_of_ble_eq_true rfl, Nat.le_of_ble_eq_true rfl⟩ (Nat.le_of_ble_eq_true rfl) dX6_code_47 ?_
      refine x_aload_n E dX6_code_50 rfl 1 rfl ?_
      refine x_gf (v := .ref (ad 0 4)) E fr_X6_34 rfl rfl dX6_code_51 ?_
      refine x_iload_n E dX6_code_54 rfl 0 rfl ?_
      refine x_aaldR E dX6_code_55 hm (fun n_5 hn_5 hm => ?_)
      refine x_aload_n E dX6_code_56 rfl 1 rfl ?_
      refine x_gf (v := .ref (ad 0 2)) E fr_X6_17 rfl rfl dX6_code_57 ?_
      refine x_aload_n E dX6_code_60 rfl 1 rfl ?_
      refine x_gf (v := .int (rd w_4 0 0 3)) E fr_X6_20 rfl rfl dX6_code_61 ?_
      obtain ⟨w_6, hc, hm⟩ := ob_inv hm
      refine x_callV (As := [.ref (ad 0 2), .int (rd w_4 0 0 3)]) (rest := []) E my_X5_follow wG351 (c_X5_follow l D cs ad hn_5 hc) hn_5 rfl rfl ⟨Nat.le_of_ble_eq_true rfl, Nat.le_of_ble_eq_true rfl⟩ (Nat.le_of_ble_eq_true rfl) dX6_code_64 ?_
      refine x_aload_n E dX6_code_67 rfl 1 rfl ?_
      refine x_dup E dX6_code_68 rfl ?_
      refine x_gf (v := .int (rd w_6 0 0 7)) E fr_X6_42 rfl rfl dX6_code_69 ?_
      refine x_iconst (v := (iI 1)) E dX6_code_72 (by decide) ?_
      refine x_iadd E dX6_code_73 ?_
      refine x_pf E fr_X6_42 rfl (by decide) rfl rfl dX6_code_74 ?_
      refine x_bW hm (fun w_7 hm => ?_)
      refine x_aload_n E dX6_code_77 rfl 1 rfl ?_
      refine x_dup E dX6_code_78 rfl ?_
      refine x_gf (v := .int (rd w_7 0 0 8)) E fr_X6_45 rfl rfl dX6_code_79 ?_
      refine x_iconst (v := (iI 1)) E dX6_code_82 (by decide) ?_
      refine x_iadd E dX6_code_83 ?_
      refine x_pf E fr_X6_45 rfl (by decide) rfl rfl dX6_code_84 ?_
      refine x_bW hm (fun w_8 hm => ?_)
      refine x_aload_n E dX6_code_87 rfl 1 rfl ?_
      refine x_iconst (v := (iI 0)) E dX6_code_88 (by decide) ?_
      refine x_pf E fr_X6_13 rfl (by decide) rfl rfl dX6_code_89 ?_
      refine x_bW hm (fun w_9 hm => ?_)
      refine x_iload_n E dX6_code_92 rfl 0 rfl ?_
      exact x_iretS E hm dX6_code_93
    · refine x_bipush (v := (iI (-104))) E dX6_code_25 (by decide) ?_
      exact x_iretS E hm dX6_code_27
  · refine x_bipush (v := (iI (-103))) E dX6_code_14 (by decide) ?_
    exact x_iretS E hm dX6_code_16
set_option maxRecDepth 100000 in
set_option maxHeartbeats 4000000 in
theorem c_X6_validCodes (l : Launch) (D : va_G) (cs : vCs) (ad : Nat → Nat → Nat) {w : Wd} {r : Int32} (hm : X6_validCodes w = some r) : Mc l yX6_validCodes cX6_validCodes 3 (some .int) 2 40 D cs ad [.ref (ad 0 0)] w (some (.int r)) w := by
  refine Mc.of (by decide) (Nat.le_of_ble_eq_true rfl) ?_
  intro p e s m args below meth c E
  replace E : EV p m c cX6_validCodes 3 s args RX6 yX6_validCodes (some .int) meth D cs ad := E
  have hL4 : ∀ (fuel : Nat) (b1 : Int32) (b2 : Int32) (w : Wd), X6_validCodes_L4 fuel b1 b2 w = some r → XV p l e { frames := 2, cells := 0, slots := 0, locals := 40 } s m args below meth c 3 D cs ad (MQ below (xQ D cs ad (some (.int r)) w) args s 0 0 (xF ad)) 4 [(0, .ref (ad 0 0)), (1, .int b1), (2, .int b2)] [] w := by
    intro fuel
    induction fuel with
    | zero => intro b1 b2 w hm; cases hm
    | succ fuel ih =>
      intro b1 b2 w hm
      rw [X6_validCodes_L4] at hm
      refine x_iload_n E dX6_validCodes_4 rfl 2 rfl ?_
      refine x_aload_n E dX6_validCodes_5 rfl 0 rfl ?_
      refine x_gf (v := .int (rd w 0 0 7)) E fr_X6_42 rfl rfl dX6_validCodes_6 ?_
      refine x_icmp_ge (tgt := 33) E dX6_validCodes_9 (by decide) hm (fun _ hm => ?_) (fun _ hm => ?_)
      · refine x_iload_n E dX6_validCodes_33 rfl 1 rfl ?_
        exact x_iretP E hm dX6_validCodes_34
      · refine x_aload_n E dX6_validCodes_12 rfl 0 rfl ?_
        refine x_gf (v := .ref (ad 0 4)) E fr_X6_34 rfl rfl dX6_validCodes_13 ?_
        refine x_iload_n E dX6_validCodes_16 rfl 2 rfl ?_
        refine x_aaldR E dX6_validCodes_17 hm (fun n_1 hn_1 hm => ?_)
        obtain ⟨r_2, hc, hm⟩ := ob_inv hm
        refine x_callV (As := []) (rest := []) E my_X5_isValid wG453 (c_X5_isValid l D cs ad hn_1 hc) hn_1 rfl rfl ⟨Nat.le_of_ble_eq_true rfl, Nat.le_of_ble_eq_true rfl⟩ (Nat.le_of_ble_eq_true rfl) dX6_validCodes_18 ?_
        refine x_if_eq (tgt := 27) E dX6_validCodes_21 (by decide) hm (fun _ hm => ?_) (fun _ hm => ?_)
        · refine x_iincB (lv' := fun x_3 => [(2, .int x_3), (0, .ref (ad 0 0)), (1, .int b1)]) (j := 2) E dX6_validCodes_27 rfl rfl (by decide) (fun _ => rfl) hm (fun x_3 hm => ?_)
          refine x_goto (tgt := 4) E dX6_validCodes_30 (by decide) ?_
          exact x_weak [1, 2, 0] rfl ((ih) b1 x_3 w hm)
        · refine x_iincB (lv' := fun x_4 => [(1, .int x_4), (0, .ref (ad 0 0)), (2, .int b2)]) (j := 1) E dX6_validCodes_24 rfl rfl (by decide) (fun _ => rfl) hm (fun x_4 hm => ?_)
          refine x_iincB (lv' := fun x_5 => [(2, .int x_5), (1, .int x_4), (0, .ref (ad 0 0))]) (j := 2) E dX6_validCodes_27 rfl rfl (by decide) (fun _ => rfl) hm (fun x_5 hm => ?_)
          refine x_goto (tgt := 4) E dX6_validCodes_30 (by decide) ?_
          exact x_weak [2, 1, 0] rfl ((ih) x_4 x_5 w hm)
  unfold X6_validCodes at hm
  refine x_iconst (v := (iI 0)) E dX6_validCodes_0 (by decide) ?_
  refine x_istore_n (lv' := [(1, .int (iI 0)), (0, .ref (ad 0 0))]) E dX6_validCodes_1 rfl (by decide) rfl ?_
  refine x_iconst (v := (iI 0)) E dX6_validCodes_2 (by decide) ?_
  refine x_istore_n (lv' := [(2, .int (iI 0)), (1, .int (iI 0)), (0, .ref (ad 0 0))]) E dX6_validCodes_3 rfl (by decide) rfl ?_
  exact x_weak [2, 1, 0] rfl ((hL4 1000) (iI 0) (iI 0) w hm)
set_option maxRecDepth 100000 in
set_option maxHeartbeats 4000000 in
theorem c_X6_count (l : Launch) (D : va_G) (cs : vCs) (ad : Nat → Nat → Nat) {w : Wd} {a1 : Int32} {r : Int32} (hm : X6_count w a1 = some r) : Mc l yX6_count cX6_count 2 (some .int) 3 62 D cs ad [.ref (ad 0 0), .int a1] w (some (.int r)) w := by
  refine Mc.of (by decide) (Nat.le_of_ble_eq_true rfl) ?_
  intro p e s m args below meth c E
  replace E : EV p m c cX6_count 2 s args RX6 yX6_count (some .int) meth D cs ad := E
  unfold X6_count at hm
  refine x_iload_n E dX6_count_0 rfl 1 rfl ?_
  refine x_split hm (fun hx hm => ?_) (fun hs0 hm => ?_)
  · refine x_tin (kv := (iI 0)) (tgt := 48) E dX6_count_1 hx rfl (by decide) (by decide) rfl (by decide) ?_
    refine x_aload_n E dX6_count_48 rfl 0 rfl ?_
    refine x_gf (v := .int (rd w 0 0 7)) E fr_X6_42 rfl rfl dX6_count_49 ?_
    exact x_iretP E hm dX6_count_52
  refine x_split hm (fun hx hm => ?_) (fun hs1 hm => ?_)
  · refine x_tin (kv := (iI 1)) (tgt := 53) E dX6_count_1 hx rfl (by decide) (by decide) rfl (by decide) ?_
    refine x_aload_n E dX6_count_53 rfl 0 rfl ?_
    refine x_gf (v := .int (rd w 0 0 3)) E fr_X6_20 rfl rfl dX6_count_54 ?_
    exact x_iretP E hm dX6_count_57
  refine x_split hm (fun hx hm => ?_) (fun hs2 hm => ?_)
  · refine x_tin (kv := (iI 2)) (tgt := 58) E dX6_count_1 hx rfl (by decide) (by decide) rfl (by decide) ?_
    refine x_aload_n E dX6_count_58 rfl 0 rfl ?_
    refine x_gf (v := .int (rd w 0 0 4)) E fr_X6_23 rfl rfl dX6_count_59 ?_
    exact x_iretP E hm dX6_count_62
  refine x_split hm (fun hx hm => ?_) (fun hs3 hm => ?_)
  · refine x_tin (kv := (iI 3)) (tgt := 63) E dX6_count_1 hx rfl (by decide) (by decide) rfl (by decide) ?_
    refine x_aload_n E dX6_count_63 rfl 0 rfl ?_
    obtain ⟨r_1, hc, hm⟩ := ob_inv hm
    refine x_callV (As := []) (rest := []) E my_X6_aliveCodes wG665 (c_X6_aliveCodes l D cs ad hc) rfl rfl rfl ⟨Nat.le_of_ble_eq_true rfl, Nat.le_of_ble_eq_true rfl⟩ (Nat.le_of_ble_eq_true rfl) dX6_count_64 ?_
    exact x_iretP E hm dX6_count_67
  refine x_split hm (fun hx hm => ?_) (fun hs4 hm => ?_)
  · refine x_tin (kv := (iI 4)) (tgt := 68) E dX6_count_1 hx rfl (by decide) (by decide) rfl (by decide) ?_
    refine x_aload_n E dX6_count_68 rfl 0 rfl ?_
    obtain ⟨r_2, hc, hm⟩ := ob_inv hm
    refine x_callV (As := []) (rest := []) E my_X6_validCodes wG669 (c_X6_validCodes l D cs ad hc) rfl rfl rfl ⟨Nat.le_of_ble_eq_true rfl, Nat.le_of_ble_eq_true rfl⟩ (Nat.le_of_ble_eq_true rfl) dX6_count_69 ?_
    exact x_iretP E hm dX6_count_72
  refine x_split hm (fun hx hm => ?_) (fun hs5 hm => ?_)
  · refine x_tin (kv := (iI 5)) (tgt := 73) E dX6_count_1 hx rfl (by decide) (by decide) rfl (by decide) ?_
    refine x_aload_n E dX6_count_73 rfl 0 rfl ?_
    refine x_gf (v := .int (rd w 0 0 1)) E fr_X6_13 rfl rfl dX6_count_74 ?_
    exact x_iretP E hm dX6_count_77
  refine x_split hm (fun hx hm => ?_) (fun hs6 hm => ?_)
  · refine x_tin (kv := (iI 6)) (tgt := 78) E dX6_count_1 hx rfl (by decide) (by decide) rfl (by decide) ?_
    refine x_aload_n E dX6_count_78 rfl 0 rfl ?_
    refine x_gf (v := .int (rd w 0 0 8)) E fr_X6_45 rfl rfl dX6_count_79 ?_
    exact x_iretP E hm dX6_count_82
  refine x_split hm (fun hx hm => ?_) (fun hs7 hm => ?_)
  · refine x_tin (kv := (iI 7)) (tgt := 83) E dX6_count_1 hx rfl (by decide) (by decide) rfl (by decide) ?_
    refine x_aload_n E dX6_count_83 rfl 0 rfl ?_
    refine x_gf (v := .int (rd w 0 0 9)) E fr_X6_48 rfl rfl dX6_count_84 ?_
    exact x_iretP E hm dX6_count_87
  refine x_tout (tgt := 88) E dX6_count_1 (by have := lv_neT (a := 0) hs0 rfl; have := lv_neT (a := 1) hs1 rfl; have := lv_neT (a := 2) hs2 rfl; have := lv_neT (a := 3) hs3 rfl; have := lv_neT (a := 4) hs4 rfl; have := lv_neT (a := 5) hs5 rfl; have := lv_neT (a := 6) hs6 rfl; have := lv_neT (a := 7) hs7 rfl; omega) (by decide) ?_
  refine x_bipush (v := (iI (-102))) E dX6_count_88 (by decide) ?_
  exact x_iretP E hm dX6_count_90
set_option maxRecDepth 100000 in
set_option maxHeartbeats 4000000 in
theorem c_X6_cuts (l : Launch) (D : va_G) (cs : vCs) (ad : Nat → Nat → Nat) {w : Wd} {a1 : Int32} {r : Int32} {w' : Wd} (hm : X6_cuts w a1 = some (r, w')) : Mc l yX6_cuts cX6_cuts 2 (some .int) 4 107 D cs ad [.ref (ad 0 0), .int a1] w (some (.int r)) w' := by
  refine Mc.of (by decide) (Nat.le_of_ble_eq_true rfl) ?_
  intro p e s m args below meth c E
  replace E : EV p m c cX6_cuts 2 s args RX6 yX6_cuts (some .int) meth D cs ad := E
  unfold X6_cuts at hm
  refine x_iload_n E dX6_cuts_0 rfl 1 rfl ?_
  refine x_if_lt (tgt := 9) E dX6_cuts_1 (by decide) hm (fun _ hm => ?_) (fun _ hm => ?_)
  · refine x_bipush (v := (iI (-102))) E dX6_cuts_9 (by decide) ?_
    exact x_iretS E hm dX6_cuts_11
  · refine x_iload_n E dX6_cuts_4 rfl 1 rfl ?_
    refine x_iconst (v := (iI 1)) E dX6_cuts_5 (by decide) ?_
    refine x_icmp_le (tgt := 12) E dX6_cuts_6 (by decide) hm (fun _ hm => ?_) (fun _ hm => ?_)
    · refine x_aload_n E dX6_cuts_12 rfl 0 rfl ?_
      refine x_gf (v := .ref (ad 11 0)) E fr_X6_68 rfl rfl dX6_cuts_13 ?_
      refine x_aload_n E dX6_cuts_16 rfl 0 rfl ?_
      refine x_gf (v := .ref (ad 0 3)) E fr_X6_28 rfl rfl dX6_cuts_17 ?_
      refine x_aload_n E dX6_cuts_20 rfl 0 rfl ?_
      refine x_gf (v := .int (rd w 0 0 7)) E fr_X6_42 rfl rfl dX6_cuts_21 ?_
      refine x_aload_n E dX6_cuts_24 rfl 0 rfl ?_
      refine x_gf (v := .ref (ad 0 2)) E fr_X6_17 rfl rfl dX6_cuts_25 ?_
      refine x_aload_n E dX6_cuts_28 rfl 0 rfl ?_
      refine x_gf (v := .int (rd w 0 0 3)) E fr_X6_20 rfl rfl dX6_cuts_29 ?_
      obtain ⟨r_1, w_2, hc, hm⟩ := bI_inv hm
      refine x_callV (As := [.ref (ad 0 3), .int (rd w 0 0 7), .ref (ad 0 2), .int (rd w 0 0 3)]) (rest := []) E my_X1_divide wG625 (c_X1_divide l D cs ad hc) rfl rfl rfl ⟨Nat.le_of_ble_eq_true rfl, Nat.le_of_ble_eq_true rfl⟩ (Nat.le_of_ble_eq_true rfl) dX6_cuts_32 ?_
      refine x_if_ne (tgt := 41) E dX6_cuts_35 (by decide) hm (fun _ hm => ?_) (fun _ hm => ?_)
      · refine x_iload_n E dX6_cuts_41 rfl 1 rfl ?_
        refine x_if_ne (tgt := 55) E dX6_cuts_42 (by decide) hm (fun _ hm => ?_) (fun _ hm => ?_)
        · refine x_aload_n E dX6_cuts_55 rfl 0 rfl ?_
          refine x_gf (v := .ref (ad 11 0)) E fr_X6_68 rfl rfl dX6_cuts_56 ?_
          obtain ⟨r_3, hc, hm⟩ := ob_inv hm
          refine x_callV (As := []) (rest := []) E my_X1_pieceCount wG649 (c_X1_pieceCount l D cs ad hc) rfl rfl rfl ⟨Nat.le_of_ble_eq_true rfl, Nat.le_of_ble_eq_true rfl⟩ (Nat.le_of_ble_eq_true rfl) dX6_cuts_59 ?_
          exact x_iretS E hm dX6_cuts_62
        · refine x_aload_n E dX6_cuts_45 rfl 0 rfl ?_
          refine x_gf (v := .ref (ad 11 0)) E fr_X6_68 rfl rfl dX6_cuts_46 ?_
          obtain ⟨r_4, hc, hm⟩ := ob_inv hm
          refine x_callV (As := []) (rest := []) E my_X1_worth wG645 (c_X1_worth l D cs ad hc) rfl rfl rfl ⟨Nat.le_of_ble_eq_true rfl, Nat.le_of_ble_eq_true rfl⟩ (Nat.le_of_ble_eq_true rfl) dX6_cuts_49 ?_
          refine x_goto (tgt := 62) E dX6_cuts_52 (by decide) ?_
          exact x_iretS E hm dX6_cuts_62
      · refine x_bipush (v := (iI (-103))) E dX6_cuts_38 (by decide) ?_
        exact x_iretS E hm dX6_cuts_40
    · refine x_bipush (v := (iI (-102))) E dX6_cuts_9 (by decide) ?_
      exact x_iretS E hm dX6_cuts_11
set_option maxRecDepth 100000 in
set_option maxHeartbeats 4000000 in
theorem c_X6_ink (l : Launch) (D : va_G) (cs : vCs) (ad : Nat → Nat → Nat) {w : Wd} {a1 : Int32} {a2 : Int32} {r : Int32} (hm : X6_ink w a1 a2 = some r) : Mc l yX6_ink cX6_ink 3 (some .int) 1 21 D cs ad [.ref (ad 0 0), .int a1, .int a2] w (some (.int r)) w := by
  refine Mc.of (by decide) (Nat.le_of_ble_eq_true rfl) ?_
  intro p e s m args below meth c E
  replace E : EV p m c cX6_ink 3 s args RX6 yX6_ink (some .int) meth D cs ad := E
  unfold X6_ink at hm
  refine x_aload_n E dX6_ink_0 rfl 0 rfl ?_
  refine x_iload_n E dX6_ink_1 rfl 1 rfl ?_
  refine x_callV (As := [.int a1]) (rest := []) E my_X6_isCode wG398 (c_X6_isCode l D cs ad rfl) rfl rfl rfl ⟨Nat.le_of_ble_eq_true rfl, Nat.le_of_ble_eq_true rfl⟩ (Nat.le_of_ble_eq_true rfl) dX6_ink_2 ?_
  refine x_if_eq (tgt := 25) E dX6_ink_5 (by decide) hm (fun _ hm => ?_) (fun _ hm => ?_)
  · refine x_bipush (v := (iI (-101))) E dX6_ink_25 (by decide) ?_
    exact x_iretP E hm dX6_ink_27
  · refine x_iload_n E dX6_ink_8 rfl 2 rfl ?_
    refine x_if_lt (tgt := 25) E dX6_ink_9 (by decide) hm (fun _ hm => ?_) (fun _ hm => ?_)
    · refine x_bipush (v := (iI (-101))) E dX6_ink_25 (by decide) ?_
      exact x_iretP E hm dX6_ink_27
    · refine x_iload_n E dX6_ink_12 rfl 2 rfl ?_
      refine x_aload_n E dX6_ink_13 rfl 0 rfl ?_
      refine x_gf (v := .ref (ad 0 3)) E fr_X6_28 rfl rfl dX6_ink_14 ?_
      refine x_iload_n E dX6_ink_17 rfl 1 rfl ?_
      refine x_aaldC E dX6_ink_18 hm (fun n_1 hn_1 hm => ?_)
      refine x_callV (As := []) (rest := [.int a2]) E my_X0_textLength wG402 (c_X0_textLength l D cs ad hn_1 rfl) hn_1 rfl rfl ⟨Nat.le_of_ble_eq_true rfl, Nat.le_of_ble_eq_true rfl⟩ (Nat.le_of_ble_eq_true rfl) dX6_ink_19 ?_
      refine x_icmp_lt (tgt := 28) E dX6_ink_22 (by decide) hm (fun _ hm => ?_) (fun _ hm => ?_)
      · refine x_aload_n E dX6_ink_28 rfl 0 rfl ?_
        refine x_gf (v := .ref (ad 0 3)) E fr_X6_28 rfl rfl dX6_ink_29 ?_
        refine x_iload_n E dX6_ink_32 rfl 1 rfl ?_
        refine x_aaldC E dX6_ink_33 hm (fun n_2 hn_2 hm => ?_)
        refine x_iload_n E dX6_ink_34 rfl 2 rfl ?_
        obtain ⟨r_3, hc, hm⟩ := ob_inv hm
        refine x_callV (As := [.int a2]) (rest := []) E my_X0_textAt wG406 (c_X0_textAt l D cs ad hn_2 hc) hn_2 rfl rfl ⟨Nat.le_of_ble_eq_true rfl, Nat.le_of_ble_eq_true rfl⟩ (Nat.le_of_ble_eq_true rfl) dX6_ink_35 ?_
        exact x_iretP E hm dX6_ink_38
      · refine x_bipush (v := (iI (-101))) E dX6_ink_25 (by decide) ?_
        exact x_iretP E hm dX6_ink_27
set_option maxRecDepth 100000 in
set_option maxHeartbeats 4000000 in
theorem c_X6_fold (l : Launch) (D : va_G) (cs : vCs) (ad : Nat → Nat → Nat) {w : Wd} {a0 : Int64} {a2 : Int64} {r : Int64} (hm : X6_fold a0 a2 = r) : Mc l yX6_fold cX6_fold 4 (some .long) 0 0 D cs ad [.long a0, .long a2] w (some (.long r)) w := by
  refine Mc.of (by decide) (Nat.le_of_ble_eq_true rfl) ?_
  intro p e s m args below meth c E
  replace E : EV p m c cX6_fold 4 s args RX6 yX6_fold (some .long) meth D cs ad := E
  unfold X6_fold at hm
  refine x_ldc2 (v := (31 : Int64)) E wG686 dX6_fold_0 ?_
  refine x_lload_n E dX6_fold_3 rfl 0 rfl ?_
  refine x_lmul E dX6_fold_4 ?_
  refine x_lload_n E dX6_fold_5 rfl 1 rfl ?_
  refine x_ladd E dX6_fold_6 ?_
  exact x_lretT E hm dX6_fold_7
set_option maxRecDepth 100000 in
set_option maxHeartbeats 4000000 in
theorem c_X6_pairs (l : Launch) (D : va_G) (cs : vCs) (ad : Nat → Nat → Nat) {w : Wd} {a1 : Int32} {a2 : Int32} {r : Int32} (hm : X6_pairs w a1 a2 = some r) : Mc l yX6_pairs cX6_pairs 3 (some .int) 2 41 D cs ad [.ref (ad 0 0), .int a1, .int a2] w (some (.int r)) w := by
  refine Mc.of (by decide) (Nat.le_of_ble_eq_true rfl) ?_
  intro p e s m args below meth c E
  replace E : EV p m c cX6_pairs 3 s args RX6 yX6_pairs (some .int) meth D cs ad := E
  unfold X6_pairs at hm
  refine x_aload_n E dX6_pairs_0 rfl 0 rfl ?_
  refine x_iload_n E dX6_pairs_1 rfl 1 rfl ?_
  refine x_callV (As := [.int a1]) (rest := []) E my_X6_isCode wG398 (c_X6_isCode l D cs ad rfl) rfl rfl rfl ⟨Nat.le_of_ble_eq_true rfl, Nat.le_of_ble_eq_true rfl⟩ (Nat.le_of_ble_eq_true rfl) dX6_pairs_2 ?_
  refine x_if_ne (tgt := 11) E dX6_pairs_5 (by decide) hm (fun _ hm => ?_) (fun _ hm => ?_)
  · refine x_iload_n E dX6_pairs_11 rfl 2 rfl ?_
    refine x_callS (As := [.int a2]) (rest := []) E my_X6_isSortPair wG550 (c_X6_isSortPair l D cs ad rfl) rfl ⟨Nat.le_of_ble_eq_true rfl, Nat.le_of_ble_eq_true rfl⟩ (Nat.le_of_ble_eq_true rfl) dX6_pairs_12 ?_
    refine x_if_ne (tgt := 21) E dX6_pairs_15 (by decide) hm (fun _ hm => ?_) (fun _ hm => ?_)
    · refine x_aload_n E dX6_pairs_21 rfl 0 rfl ?_
      refine x_gf (v := .ref (ad 0 4)) E fr_X6_34 rfl rfl dX6_pairs_22 ?_
      refine x_iload_n E dX6_pairs_25 rfl 1 rfl ?_
      refine x_aaldR E dX6_pairs_26 hm (fun n_1 hn_1 hm => ?_)
      refine x_iload_n E dX6_pairs_27 rfl 2 rfl ?_
      obtain ⟨r_2, hc, hm⟩ := ob_inv hm
      refine x_callV (As := [.int a2]) (rest := []) E my_X5_pairCount wG556 (c_X5_pairCount l D cs ad hn_1 hc) hn_1 rfl rfl ⟨Nat.le_of_ble_eq_true rfl, Nat.le_of_ble_eq_true rfl⟩ (Nat.le_of_ble_eq_true rfl) dX6_pairs_28 ?_
      exact x_iretP E hm dX6_pairs_31
    · refine x_bipush (v := (iI (-102))) E dX6_pairs_18 (by decide) ?_
      exact x_iretP E hm dX6_pairs_20
  · refine x_bipush (v := (iI (-101))) E dX6_pairs_8 (by decide) ?_
    exact x_iretP E hm dX6_pairs_10
set_option maxRecDepth 100000 in
set_option maxHeartbeats 4000000 in
theorem c_X6_rows (l : Launch) (D : va_G) (cs : vCs) (ad : Nat → Nat → Nat) {w : Wd} {a1 : Int32} {a2 : Int32} {r : Int32} {w' : Wd} (hm : X6_rows w a1 a2 = some (r, w')) : Mc l yX6_rows cX6_rows 3 (some .int) 4 125 D cs ad [.ref (ad 0 0), .int a1, .int a2] w (some (.int r)) w' := by
  refine Mc.of (by decide) (Nat.le_of_ble_eq_true rfl) ?_
  intro p e s m args below meth c E
  replace E : EV p m c cX6_rows 3 s args RX6 yX6_rows (some .int) meth D cs ad := E
  unfold X6_rows at hm
  refine x_aload_n E dX6_rows_0 rfl 0 rfl ?_
  refine x_iload_n E dX6_rows_1 rfl 1 rfl ?_
  refine x_callV (As := [.int a1]) (rest := []) E my_X6_isCode wG398 (c_X6_isCode l D cs ad rfl) rfl rfl rfl ⟨Nat.le_of_ble_eq_true rfl, Nat.le_of_ble_eq_true rfl⟩ (Nat.le_of_ble_eq_true rfl) dX6_rows_2 ?_
  refine x_if_ne (tgt := 11) E dX6_rows_5 (by decide) hm (fun _ hm => ?_) (fun _ hm => ?_)
  · refine x_iload_n E dX6_rows_11 rfl 2 rfl ?_
    refine x_if_lt (tgt := 21) E dX6_rows_12 (by decide) hm (fun _ hm => ?_) (fun _ hm => ?_)
    · refine x_bipush (v := (iI (-102))) E dX6_rows_21 (by decide) ?_
      exact x_iretS E hm dX6_rows_23
    · refine x_iload_n E dX6_rows_15 rfl 2 rfl ?_
      refine x_bipush (v := (iI 9)) E dX6_rows_16 (by decide) ?_
      refine x_icmp_le (tgt := 24) E dX6_rows_18 (by decide) hm (fun _ hm => ?_) (fun _ hm => ?_)
      · refine x_aload_n E dX6_rows_24 rfl 0 rfl ?_
        refine x_gf (v := .ref (ad 0 3)) E fr_X6_28 rfl rfl dX6_rows_25 ?_
        refine x_iload_n E dX6_rows_28 rfl 1 rfl ?_
        refine x_aaldC E dX6_rows_29 hm (fun n_1 hn_1 hm => ?_)
        refine x_iload_n E dX6_rows_30 rfl 2 rfl ?_
        obtain ⟨r_2, w_3, hc, hm⟩ := bI_inv hm
        refine x_callV (As := [.int a2]) (rest := []) E my_X0_validRows wG573 (c_X0_validRows l D cs ad hn_1 hc) hn_1 rfl rfl ⟨Nat.le_of_ble_eq_true rfl, Nat.le_of_ble_eq_true rfl⟩ (Nat.le_of_ble_eq_true rfl) dX6_rows_31 ?_
        exact x_iretS E hm dX6_rows_34
      · refine x_bipush (v := (iI (-102))) E dX6_rows_21 (by decide) ?_
        exact x_iretS E hm dX6_rows_23
  · refine x_bipush (v := (iI (-101))) E dX6_rows_8 (by decide) ?_
    exact x_iretS E hm dX6_rows_10
set_option maxRecDepth 100000 in
set_option maxHeartbeats 4000000 in
theorem c_X6_foldCode (l : Launch) (D : va_G) (cs : vCs) (ad : Nat → Nat → Nat) {w : Wd} {a1 : Int64} {a3 : Int32} {r : Int64} {w' : Wd} (hm : X6_foldCode w a1 a3 = some (r, w')) : Mc l yX6_foldCode cX6_foldCode 8 (some .long) 6 211 D cs ad [.ref (ad 0 0), .long a1, .int a3] w (some (.long r)) w' := by
  refine Mc.of (by decide) (Nat.le_of_ble_eq_true rfl) ?_
  intro p e s m args below meth c E
  replace E : EV p m c cX6_foldCode 8 s args RX6 yX6_foldCode (some .long) meth D cs ad := E
  have hL17 : ∀ (fuel : Nat) (k45 : Int32 → Int64 → Wd → Option (Int64 × Wd)) (hk45 : ∀ (b3 : Int32) (b4 : Int64) (w : Wd), k45 b3 b4 w = some (r, w') → XV p l e { frames := 6, cells := 0, slots := 0, locals := 211 } s m args below meth c 8 D cs ad (MQ below (xQ D cs ad (some (.long r)) w') args s 0 0 (xF ad)) 45 [(0, .ref (ad 0 0)), (3, .int b3), (4, .long b4)] [] w) (b3 : Int32) (b4 : Int64) (b6 : Int32) (b7 : Int32) (w : Wd), X6_foldCode_L17 fuel k45 b3 b4 b6 b7 w = some (r, w') → XV p l e { frames := 6, cells := 0, slots := 0, locals := 211 } s m args below meth c 8 D cs ad (MQ below (xQ D cs ad (some (.long r)) w') args s 0 0 (xF ad)) 17 [(0, .ref (ad 0 0)), (3, .int b3), (4, .long b4), (6, .int b6), (7, .int b7)] [] w := by
    intro fuel
    induction fuel with
    | zero => intro k45 hk45 b3 b4 b6 b7 w hm; cases hm
    | succ fuel ih =>
      intro k45 hk45 b3 b4 b6 b7 w hm
      rw [X6_foldCode_L17] at hm
      refine x_iload E dX6_foldCode_17 4 rfl ?_
      refine x_iload E dX6_foldCode_19 3 rfl ?_
      refine x_icmp_ge (tgt := 45) E dX6_foldCode_21 (by decide) hm (fun _ hm => ?_) (fun _ hm => ?_)
      · exact x_weak [0, 1, 2] rfl (hk45 b3 b4 w hm)
      · refine x_lload E dX6_foldCode_24 2 rfl ?_
        refine x_aload_n E dX6_foldCode_26 rfl 0 rfl ?_
        refine x_iload_n E dX6_foldCode_27 rfl 1 rfl ?_
        refine x_iload E dX6_foldCode_28 4 rfl ?_
        obtain ⟨r_3, hc, hm⟩ := ob_inv hm
        refine x_callV (As := [.int b3, .int b7]) (rest := [.long b4]) E my_X6_ink wG682 (c_X6_ink l D cs ad hc) rfl rfl rfl ⟨Nat.le_of_ble_eq_true rfl, Nat.le_of_ble_eq_true rfl⟩ (Nat.le_of_ble_eq_true rfl) dX6_foldCode_30 ?_
        refine x_i2l E dX6_foldCode_33 ?_
        refine x_callS (As := [.long b4, .long (r_3.toInt64)]) (rest := []) E my_X6_fold wG683 (c_X6_fold l D cs ad rfl) rfl ⟨Nat.le_of_ble_eq_true rfl, Nat.le_of_ble_eq_true rfl⟩ (Nat.le_of_ble_eq_true rfl) dX6_foldCode_34 ?_
        refine x_bL hm (fun x_4 hm => ?_)
        refine x_lstore (lv' := [(4, .long x_4), (0, .ref (ad 0 0)), (3, .int b3), (6, .int b6), (7, .int b7)]) E dX6_foldCode_37 (by decide) rfl ?_
        refine x_iincB (lv' := fun x_5 => [(7, .int x_5), (4, .long x_4), (0, .ref (ad 0 0)), (3, .int b3), (6, .int b6)]) (j := 4) E dX6_foldCode_39 rfl rfl (by decide) (fun _ => rfl) hm (fun x_5 hm => ?_)
        refine x_goto (tgt := 17) E dX6_foldCode_42 (by decide) ?_
        exact x_weak [2, 3, 1, 4, 0] rfl ((ih _ hk45) b3 x_4 b6 x_5 w hm)
  have hL48 : ∀ (fuel : Nat) (k76 : Int32 → Int64 → Wd → Option (Int64 × Wd)) (hk76 : ∀ (b3 : Int32) (b4 : Int64) (w : Wd), k76 b3 b4 w = some (r, w') → XV p l e { frames := 6, cells := 0, slots := 0, locals := 211 } s m args below meth c 8 D cs ad (MQ below (xQ D cs ad (some (.long r)) w') args s 0 0 (xF ad)) 76 [(0, .ref (ad 0 0)), (3, .int b3), (4, .long b4)] [] w) (b3 : Int32) (b4 : Int64) (b7 : Int32) (w : Wd), X6_foldCode_L48 fuel k76 b3 b4 b7 w = some (r, w') → XV p l e { frames := 6, cells := 0, slots := 0, locals := 211 } s m args below meth c 8 D cs ad (MQ below (xQ D cs ad (some (.long r)) w') args s 0 0 (xF ad)) 48 [(0, .ref (ad 0 0)), (3, .int b3), (4, .long b4), (7, .int b7)] [] w := by
    intro fuel
    induction fuel with
    | zero => intro k76 hk76 b3 b4 b7 w hm; cases hm
    | succ fuel ih =>
      intro k76 hk76 b3 b4 b7 w hm
      rw [X6_foldCode_L48] at hm
      refine x_iload E dX6_foldCode_48 3 rfl ?_
      refine x_bipush (v := (iI 8)) E dX6_foldCode_50 (by decide) ?_
      refine x_icmp_ge (tgt := 76) E dX6_foldCode_52 (by decide) hm (fun _ hm => ?_) (fun _ hm => ?_)
      · exact x_weak [0, 1, 2] rfl (hk76 b3 b4 w hm)
      · refine x_lload E dX6_foldCode_55 2 rfl ?_
        refine x_aload_n E dX6_foldCode_57 rfl 0 rfl ?_
        refine x_iload_n E dX6_foldCode_58 rfl 1 rfl ?_
        refine x_iload E dX6_foldCode_59 3 rfl ?_
        obtain ⟨r_6, w_7, hc, hm⟩ := bI_inv hm
        refine x_callV (As := [.int b3, .int b7]) (rest := [.long b4]) E my_X6_about wG687 (c_X6_about l D cs ad hc) rfl rfl rfl ⟨Nat.le_of_ble_eq_true rfl, Nat.le_of_ble_eq_true rfl⟩ (Nat.le_of_ble_eq_true rfl) dX6_foldCode_61 ?_
        refine x_i2l E dX6_foldCode_64 ?_
        refine x_callS (As := [.long b4, .long (r_6.toInt64)]) (rest := []) E my_X6_fold wG683 (c_X6_fold l D cs ad rfl) rfl ⟨Nat.le_of_ble_eq_true rfl, Nat.le_of_ble_eq_true rfl⟩ (Nat.le_of_ble_eq_true rfl) dX6_foldCode_65 ?_
        refine x_bL hm (fun x_8 hm => ?_)
        refine x_lstore (lv' := [(4, .long x_8), (0, .ref (ad 0 0)), (3, .int b3), (7, .int b7)]) E dX6_foldCode_68 (by decide) rfl ?_
        refine x_iincB (lv' := fun x_9 => [(7, .int x_9), (4, .long x_8), (0, .ref (ad 0 0)), (3, .int b3)]) (j := 3) E dX6_foldCode_70 rfl rfl (by decide) (fun _ => rfl) hm (fun x_9 hm => ?_)
        refine x_goto (tgt := 48) E dX6_foldCode_73 (by decide) ?_
        exact x_weak [2, 3, 1, 0] rfl ((ih _ hk76) b3 x_8 x_9 w_7 hm)
  have hL79 : ∀ (fuel : Nat) (k106 : Int32 → Int64 → Wd → Option (Int64 × Wd)) (hk106 : ∀ (b3 : Int32) (b4 : Int64) (w : Wd), k106 b3 b4 w = some (r, w') → XV p l e { frames := 6, cells := 0, slots := 0, locals := 211 } s m args below meth c 8 D cs ad (MQ below (xQ D cs ad (some (.long r)) w') args s 0 0 (xF ad)) 106 [(0, .ref (ad 0 0)), (3, .int b3), (4, .long b4)] [] w) (b3 : Int32) (b4 : Int64) (b7 : Int32) (w : Wd), X6_foldCode_L79 fuel k106 b3 b4 b7 w = some (r, w') → XV p l e { frames := 6, cells := 0, slots := 0, locals := 211 } s m args below meth c 8 D cs ad (MQ below (xQ D cs ad (some (.long r)) w') args s 0 0 (xF ad)) 79 [(0, .ref (ad 0 0)), (3, .int b3), (4, .long b4), (7, .int b7)] [] w := by
    intro fuel
    induction fuel with
    | zero => intro k106 hk106 b3 b4 b7 w hm; cases hm
    | succ fuel ih =>
      intro k106 hk106 b3 b4 b7 w hm
      rw [X6_foldCode_L79] at hm
      refine x_iload E dX6_foldCode_79 3 rfl ?_
      refine x_iconst (v := (iI 4)) E dX6_foldCode_81 (by decide) ?_
      refine x_icmp_ge (tgt := 106) E dX6_foldCode_82 (by decide) hm (fun _ hm => ?_) (fun _ hm => ?_)
      · exact x_weak [0, 1, 2] rfl (hk106 b3 b4 w hm)
      · refine x_lload E dX6_foldCode_85 2 rfl ?_
        refine x_aload_n E dX6_foldCode_87 rfl 0 rfl ?_
        refine x_iload_n E dX6_foldCode_88 rfl 1 rfl ?_
        refine x_iload E dX6_foldCode_89 3 rfl ?_
        obtain ⟨r_10, hc, hm⟩ := ob_inv hm
        refine x_callV (As := [.int b3, .int b7]) (rest := [.long b4]) E my_X6_pairs wG688 (c_X6_pairs l D cs ad hc) rfl rfl rfl ⟨Nat.le_of_ble_eq_true rfl, Nat.le_of_ble_eq_true rfl⟩ (Nat.le_of_ble_eq_true rfl) dX6_foldCode_91 ?_
        refine x_i2l E dX6_foldCode_94 ?_
        refine x_callS (As := [.long b4, .long (r_10.toInt64)]) (rest := []) E my_X6_fold wG683 (c_X6_fold l D cs ad rfl) rfl ⟨Nat.le_of_ble_eq_true rfl, Nat.le_of_ble_eq_true rfl⟩ (Nat.le_of_ble_eq_true rfl) dX6_foldCode_95 ?_
        refine x_bL hm (fun x_11 hm => ?_)
        refine x_lstore (lv' := [(4, .long x_11), (0, .ref (ad 0 0)), (3, .int b3), (7, .int b7)]) E dX6_foldCode_98 (by decide) rfl ?_
        refine x_iincB (lv' := fun x_12 => [(7, .int x_12), (4, .long x_11), (0, .ref (ad 0 0)), (3, .int b3)]) (j := 3) E dX6_foldCode_100 rfl rfl (by decide) (fun _ => rfl) hm (fun x_12 hm => ?_)
        refine x_goto (tgt := 79) E dX6_foldCode_103 (by decide) ?_
        exact x_weak [2, 3, 1, 0] rfl ((ih _ hk106) b3 x_11 x_12 w hm)
  have hL123 : ∀ (fuel : Nat) (b3 : Int32) (b4 : Int64) (b7 : Int32) (w : Wd), X6_foldCode_L123 fuel b3 b4 b7 w = some (r, w') → XV p l e { frames := 6, cells := 0, slots := 0, locals := 211 } s m args below meth c 8 D cs ad (MQ below (xQ D cs ad (some (.long r)) w') args s 0 0 (xF ad)) 123 [(0, .ref (ad 0 0)), (3, .int b3), (4, .long b4), (7, .int b7)] [] w := by
    intro fuel
    induction fuel with
    | zero => intro b3 b4 b7 w hm; cases hm
    | succ fuel ih =>
      intro b3 b4 b7 w hm
      rw [X6_foldCode_L123] at hm
      refine x_iload E dX6_foldCode_123 3 rfl ?_
      refine x_aload_n E dX6_foldCode_125 rfl 0 rfl ?_
      refine x_gf (v := .int (rd w 0 0 7)) E fr_X6_42 rfl rfl dX6_foldCode_126 ?_
      refine x_icmp_ge (tgt := 153) E dX6_foldCode_129 (by decide) hm (fun _ hm => ?_) (fun _ hm => ?_)
      · refine x_lload E dX6_foldCode_153 2 rfl ?_
        exact x_lretS E hm dX6_foldCode_155
      · refine x_lload E dX6_foldCode_132 2 rfl ?_
        refine x_aload_n E dX6_foldCode_134 rfl 0 rfl ?_
        refine x_iload_n E dX6_foldCode_135 rfl 1 rfl ?_
        refine x_iload E dX6_foldCode_136 3 rfl ?_
        obtain ⟨r_16, w_17, hc, hm⟩ := bI_inv hm
        refine x_callV (As := [.int b3, .int b7]) (rest := [.long b4]) E my_X6_apart wG690 (c_X6_apart l D cs ad hc) rfl rfl rfl ⟨Nat.le_of_ble_eq_true rfl, Nat.le_of_ble_eq_true rfl⟩ (Nat.le_of_ble_eq_true rfl) dX6_foldCode_138 ?_
        refine x_i2l E dX6_foldCode_141 ?_
        refine x_callS (As := [.long b4, .long (r_16.toInt64)]) (rest := []) E my_X6_fold wG683 (c_X6_fold l D cs ad rfl) rfl ⟨Nat.le_of_ble_eq_true rfl, Nat.le_of_ble_eq_true rfl⟩ (Nat.le_of_ble_eq_true rfl) dX6_foldCode_142 ?_
        refine x_bL hm (fun x_18 hm => ?_)
        refine x_lstore (lv' := [(4, .long x_18), (0, .ref (ad 0 0)), (3, .int b3), (7, .int b7)]) E dX6_foldCode_145 (by decide) rfl ?_
        refine x_iincB (lv' := fun x_19 => [(7, .int x_19), (4, .long x_18), (0, .ref (ad 0 0)), (3, .int b3)]) (j := 3) E dX6_foldCode_147 rfl rfl (by decide) (fun _ => rfl) hm (fun x_19 hm => ?_)
        refine x_goto (tgt := 123) E dX6_foldCode_150 (by decide) ?_
        exact x_weak [2, 3, 1, 0] rfl ((ih) b3 x_18 x_19 w_17 hm)
  have hL106 : ∀ (b3 : Int32) (b4 : Int64) (w : Wd), X6_foldCode_L106 b3 b4 w = some (r, w') → XV p l e { frames := 6, cells := 0, slots := 0, locals := 211 } s m args below meth c 8 D cs ad (MQ below (xQ D cs ad (some (.long r)) w') args s 0 0 (xF ad)) 106 [(0, .ref (ad 0 0)), (3, .int b3), (4, .long b4)] [] w := by
    intro b3 b4 w hm
    unfold X6_foldCode_L106 at hm
    refine x_lload E dX6_foldCode_106 2 rfl ?_
    refine x_aload_n E dX6_foldCode_108 rfl 0 rfl ?_
    refine x_iload_n E dX6_foldCode_109 rfl 1 rfl ?_
    refine x_iconst (v := (iI 5)) E dX6_foldCode_110 (by decide) ?_
    obtain ⟨r_13, w_14, hc, hm⟩ := bI_inv hm
    refine x_callV (As := [.int b3, .int (iI 5)]) (rest := [.long b4]) E my_X6_rows wG689 (c_X6_rows l D cs ad hc) rfl rfl rfl ⟨Nat.le_of_ble_eq_true rfl, Nat.le_of_ble_eq_true rfl⟩ (Nat.le_of_ble_eq_true rfl) dX6_foldCode_111 ?_
    refine x_i2l E dX6_foldCode_114 ?_
    refine x_callS (As := [.long b4, .long (r_13.toInt64)]) (rest := []) E my_X6_fold wG683 (c_X6_fold l D cs ad rfl) rfl ⟨Nat.le_of_ble_eq_true rfl, Nat.le_of_ble_eq_true rfl⟩ (Nat.le_of_ble_eq_true rfl) dX6_foldCode_115 ?_
    refine x_bL hm (fun x_15 hm => ?_)
    refine x_lstore (lv' := [(4, .long x_15), (0, .ref (ad 0 0)), (3, .int b3)]) E dX6_foldCode_118 (by decide) rfl ?_
    refine x_iconst (v := (iI 0)) E dX6_foldCode_120 (by decide) ?_
    refine x_istore (lv' := [(7, .int (iI 0)), (4, .long x_15), (0, .ref (ad 0 0)), (3, .int b3)]) E dX6_foldCode_121 (by decide) rfl ?_
    exact x_weak [2, 3, 1, 0] rfl ((hL123 1000) b3 x_15 (iI 0) w_14 hm)
  have hL76 : ∀ (b3 : Int32) (b4 : Int64) (w : Wd), X6_foldCode_L76 b3 b4 w = some (r, w') → XV p l e { frames := 6, cells := 0, slots := 0, locals := 211 } s m args below meth c 8 D cs ad (MQ below (xQ D cs ad (some (.long r)) w') args s 0 0 (xF ad)) 76 [(0, .ref (ad 0 0)), (3, .int b3), (4, .long b4)] [] w := by
    intro b3 b4 w hm
    unfold X6_foldCode_L76 at hm
    refine x_iconst (v := (iI 0)) E dX6_foldCode_76 (by decide) ?_
    refine x_istore (lv' := [(7, .int (iI 0)), (0, .ref (ad 0 0)), (3, .int b3), (4, .long b4)]) E dX6_foldCode_77 (by decide) rfl ?_
    exact x_weak [1, 2, 3, 0] rfl ((hL79 1000 _ (hL106)) b3 b4 (iI 0) w hm)
  have hL45 : ∀ (b3 : Int32) (b4 : Int64) (w : Wd), X6_foldCode_L45 b3 b4 w = some (r, w') → XV p l e { frames := 6, cells := 0, slots := 0, locals := 211 } s m args below meth c 8 D cs ad (MQ below (xQ D cs ad (some (.long r)) w') args s 0 0 (xF ad)) 45 [(0, .ref (ad 0 0)), (3, .int b3), (4, .long b4)] [] w := by
    intro b3 b4 w hm
    unfold X6_foldCode_L45 at hm
    refine x_iconst (v := (iI 0)) E dX6_foldCode_45 (by decide) ?_
    refine x_istore (lv' := [(7, .int (iI 0)), (0, .ref (ad 0 0)), (3, .int b3), (4, .long b4)]) E dX6_foldCode_46 (by decide) rfl ?_
    exact x_weak [1, 2, 3, 0] rfl ((hL48 1000 _ (hL76)) b3 b4 (iI 0) w hm)
  unfold X6_foldCode at hm
  refine x_lload_n E dX6_foldCode_0 rfl 1 rfl ?_
  refine x_lstore (lv' := [(4, .long a1), (0, .ref (ad 0 0)), (1, .long a1), (3, .int a3)]) E dX6_foldCode_1 (by decide) rfl ?_
  refine x_aload_n E dX6_foldCode_3 rfl 1 rfl ?_
  refine x_gf (v := .ref (ad 0 3)) E fr_X6_28 rfl rfl dX6_foldCode_4 ?_
  refine x_iload_n E dX6_foldCode_7 rfl 3 rfl ?_
  refine x_aaldC E dX6_foldCode_8 hm (fun n_1 hn_1 hm => ?_)
  refine x_callV (As := []) (rest := []) E my_X0_textLength wG402 (c_X0_textLength l D cs ad hn_1 rfl) hn_1 rfl rfl ⟨Nat.le_of_ble_eq_true rfl, Nat.le_of_ble_eq_true rfl⟩ (Nat.le_of_ble_eq_true rfl) dX6_foldCode_9 ?_
  refine x_bI hm (fun x_2 hm => ?_)
  refine x_istore (lv' := [(6, .int x_2), (4, .long a1), (0, .ref (ad 0 0)), (1, .long a1), (3, .int a3)]) E dX6_foldCode_12 (by decide) rfl ?_
  refine x_iconst (v := (iI 0)) E dX6_foldCode_14 (by decide) ?_
  refine x_istore (lv' := [(7, .int (iI 0)), (6, .int x_2), (4, .long a1), (0, .ref (ad 0 0)), (1, .long a1), (3, .int a3)]) E dX6_foldCode_15 (by decide) rfl ?_
  exact x_weak [3, 5, 2, 1, 0] rfl ((hL17 1000 _ (hL45)) a3 a1 x_2 (iI 0) w hm)
set_option maxRecDepth 100000 in
set_option maxHeartbeats 4000000 in
theorem c_X6_rank (l : Launch) (D : va_G) (cs : vCs) (ad : Nat → Nat → Nat) {w : Wd} {a1 : Int32} {r : Int32} (hm : X6_rank w a1 = some r) : Mc l yX6_rank cX6_rank 3 (some .int) 5 107 D cs ad [.ref (ad 0 0), .int a1] w (some (.int r)) w := by
  refine Mc.of (by decide) (Nat.le_of_ble_eq_true rfl) ?_
  intro p e s m args below meth c E
  replace E : EV p m c cX6_rank 3 s args RX6 yX6_rank (some .int) meth D cs ad := E
  have hL2 : ∀ (fuel : Nat) (b1 : Int32) (b2 : Int32) (w : Wd), X6_rank_L2 fuel b1 b2 w = some r → XV p l e { frames := 5, cells := 0, slots := 0, locals := 107 } s m args below meth c 3 D cs ad (MQ below (xQ D cs ad (some (.int r)) w) args s 0 0 (xF ad)) 2 [(0, .ref (ad 0 0)), (1, .int b1), (2, .int b2)] [] w := by
    intro fuel
    induction fuel with
    | zero => intro b1 b2 w hm; cases hm
    | succ fuel ih =>
      intro b1 b2 w hm
      rw [X6_rank_L2] at hm
      refine x_iload_n E dX6_rank_2 rfl 2 rfl ?_
      refine x_aload_n E dX6_rank_3 rfl 0 rfl ?_
      refine x_gf (v := .int (rd w 0 0 7)) E fr_X6_42 rfl rfl dX6_rank_4 ?_
      refine x_icmp_ge (tgt := 27) E dX6_rank_7 (by decide) hm (fun _ hm => ?_) (fun _ hm => ?_)
      · refine x_bipush (v := (iI (-101))) E dX6_rank_27 (by decide) ?_
        exact x_iretP E hm dX6_rank_29
      · refine x_aload_n E dX6_rank_10 rfl 0 rfl ?_
        refine x_iload_n E dX6_rank_11 rfl 2 rfl ?_
        obtain ⟨r_1, hc, hm⟩ := ob_inv hm
        refine x_callV (As := [.int b2]) (rest := []) E my_X6_placeInRanking wG533 (c_X6_placeInRanking l D cs ad hc) rfl rfl rfl ⟨Nat.le_of_ble_eq_true rfl, Nat.le_of_ble_eq_true rfl⟩ (Nat.le_of_ble_eq_true rfl) dX6_rank_12 ?_
        refine x_iload_n E dX6_rank_15 rfl 1 rfl ?_
        refine x_icmp_ne (tgt := 21) E dX6_rank_16 (by decide) hm (fun _ hm => ?_) (fun _ hm => ?_)
        · refine x_iincB (lv' := fun x_2 => [(2, .int x_2), (0, .ref (ad 0 0)), (1, .int b1)]) (j := 2) E dX6_rank_21 rfl rfl (by decide) (fun _ => rfl) hm (fun x_2 hm => ?_)
          refine x_goto (tgt := 2) E dX6_rank_24 (by decide) ?_
          exact x_weak [1, 2, 0] rfl ((ih) b1 x_2 w hm)
        · refine x_iload_n E dX6_rank_19 rfl 2 rfl ?_
          exact x_iretP E hm dX6_rank_20
  unfold X6_rank at hm
  refine x_iconst (v := (iI 0)) E dX6_rank_0 (by decide) ?_
  refine x_istore_n (lv' := [(2, .int (iI 0)), (0, .ref (ad 0 0)), (1, .int a1)]) E dX6_rank_1 rfl (by decide) rfl ?_
  exact x_weak [1, 2, 0] rfl ((hL2 1000) a1 (iI 0) w hm)
set_option maxRecDepth 100000 in
set_option maxHeartbeats 4000000 in
theorem c_X6_judged (l : Launch) (D : va_G) (cs : vCs) (ad : Nat → Nat → Nat) {w : Wd} {r : Int32} (hm : X6_judged w = some r) : Mc l yX6_judged cX6_judged 2 (some .int) 6 129 D cs ad [.ref (ad 0 0)] w (some (.int r)) w := by
  refine Mc.of (by decide) (Nat.le_of_ble_eq_true rfl) ?_
  intro p e s m args below meth c E
  replace E : EV p m c cX6_judged 2 s args RX6 yX6_judged (some .int) meth D cs ad := E
  unfold X6_judged at hm
  refine x_aload_n E dX6_judged_0 rfl 0 rfl ?_
  refine x_iconst (v := (iI 0)) E dX6_judged_1 (by decide) ?_
  obtain ⟨r_1, hc, hm⟩ := ob_inv hm
  refine x_callV (As := [.int (iI 0)]) (rest := []) E my_X6_rank wG564 (c_X6_rank l D cs ad hc) rfl rfl rfl ⟨Nat.le_of_ble_eq_true rfl, Nat.le_of_ble_eq_true rfl⟩ (Nat.le_of_ble_eq_true rfl) dX6_judged_2 ?_
  refine x_istore_n (lv' := [(1, .int r_1), (0, .ref (ad 0 0))]) E dX6_judged_5 rfl (by decide) rfl ?_
  refine x_aload_n E dX6_judged_6 rfl 1 rfl ?_
  refine x_iload_n E dX6_judged_7 rfl 0 rfl ?_
  refine x_callV (As := [.int r_1]) (rest := []) E my_X6_isCode wG398 (c_X6_isCode l D cs ad rfl) rfl rfl rfl ⟨Nat.le_of_ble_eq_true rfl, Nat.le_of_ble_eq_true rfl⟩ (Nat.le_of_ble_eq_true rfl) dX6_judged_8 ?_
  refine x_if_eq (tgt := 30) E dX6_judged_11 (by decide) hm (fun _ hm => ?_) (fun _ hm => ?_)
  · refine x_iconst (v := (iI (-1))) E dX6_judged_30 (by decide) ?_
    exact x_iretP E hm dX6_judged_31
  · refine x_aload_n E dX6_judged_14 rfl 1 rfl ?_
    refine x_gf (v := .ref (ad 0 4)) E fr_X6_34 rfl rfl dX6_judged_15 ?_
    refine x_iload_n E dX6_judged_18 rfl 0 rfl ?_
    refine x_aaldR E dX6_judged_19 hm (fun n_2 hn_2 hm => ?_)
    obtain ⟨r_3, hc, hm⟩ := ob_inv hm
    refine x_callV (As := []) (rest := []) E my_X5_isValid wG453 (c_X5_isValid l D cs ad hn_2 hc) hn_2 rfl rfl ⟨Nat.le_of_ble_eq_true rfl, Nat.le_of_ble_eq_true rfl⟩ (Nat.le_of_ble_eq_true rfl) dX6_judged_20 ?_
    refine x_if_eq (tgt := 30) E dX6_judged_23 (by decide) hm (fun _ hm => ?_) (fun _ hm => ?_)
    · refine x_iconst (v := (iI (-1))) E dX6_judged_30 (by decide) ?_
      exact x_iretP E hm dX6_judged_31
    · refine x_iload_n E dX6_judged_26 rfl 0 rfl ?_
      refine x_goto (tgt := 31) E dX6_judged_27 (by decide) ?_
      exact x_iretP E hm dX6_judged_31
set_option maxRecDepth 100000 in
set_option maxHeartbeats 4000000 in
theorem c_X6_foldDivision (l : Launch) (D : va_G) (cs : vCs) (ad : Nat → Nat → Nat) {w : Wd} {a1 : Int64} {r : Int64} {w' : Wd} (hm : X6_foldDivision w a1 = some (r, w')) : Mc l yX6_foldDivision cX6_foldDivision 8 (some .long) 4 107 D cs ad [.ref (ad 0 0), .long a1] w (some (.long r)) w' := by
  refine Mc.of (by decide) (Nat.le_of_ble_eq_true rfl) ?_
  intro p e s m args below meth c E
  replace E : EV p m c cX6_foldDivision 8 s args RX6 yX6_foldDivision (some .long) meth D cs ad := E
  have hL71 : ∀ (fuel : Nat) (k100 : Int64 → Int32 → Int32 → Wd → Option (Int64 × Wd)) (hk100 : ∀ (b3 : Int64) (b5 : Int32) (b6 : Int32) (w : Wd), k100 b3 b5 b6 w = some (r, w') → XV p l e { frames := 4, cells := 0, slots := 0, locals := 107 } s m args below meth c 8 D cs ad (MQ below (xQ D cs ad (some (.long r)) w') args s 0 0 (xF ad)) 100 [(0, .ref (ad 0 0)), (3, .long b3), (5, .int b5), (6, .int b6)] [] w) (b3 : Int64) (b5 : Int32) (b6 : Int32) (b7 : Int32) (w : Wd), X6_foldDivision_L71 fuel k100 b3 b5 b6 b7 w = some (r, w') → XV p l e { frames := 4, cells := 0, slots := 0, locals := 107 } s m args below meth c 8 D cs ad (MQ below (xQ D cs ad (some (.long r)) w') args s 0 0 (xF ad)) 71 [(0, .ref (ad 0 0)), (3, .long b3), (5, .int b5), (6, .int b6), (7, .int b7)] [] w := by
    intro fuel
    induction fuel with
    | zero => intro k100 hk100 b3 b5 b6 b7 w hm; cases hm
    | succ fuel ih =>
      intro k100 hk100 b3 b5 b6 b7 w hm
      rw [X6_foldDivision_L71] at hm
      refine x_iload E dX6_foldDivision_71 4 rfl ?_
      refine x_iconst (v := (iI 3)) E dX6_foldDivision_73 (by decide) ?_
      refine x_icmp_ge (tgt := 100) E dX6_foldDivision_74 (by decide) hm (fun _ hm => ?_) (fun _ hm => ?_)
      · exact x_weak [0, 1, 2, 3] rfl (hk100 b3 b5 b6 w hm)
      · refine x_lload_n E dX6_foldDivision_77 rfl 1 rfl ?_
        refine x_aload_n E dX6_foldDivision_78 rfl 0 rfl ?_
        refine x_gf (v := .ref (ad 11 0)) E fr_X6_68 rfl rfl dX6_foldDivision_79 ?_
        refine x_iload E dX6_foldDivision_82 3 rfl ?_
        refine x_iload E dX6_foldDivision_84 4 rfl ?_
        obtain ⟨r_7, hc, hm⟩ := ob_inv hm
        refine x_callV (As := [.int b6, .int b7]) (rest := [.long b3]) E my_X1_propertyOf wG657 (c_X1_propertyOf l D cs ad hc) rfl rfl rfl ⟨Nat.le_of_ble_eq_true rfl, Nat.le_of_ble_eq_true rfl⟩ (Nat.le_of_ble_eq_true rfl) dX6_foldDivision_86 ?_
        refine x_i2l E dX6_foldDivision_89 ?_
        refine x_callS (As := [.long b3, .long (r_7.toInt64)]) (rest := []) E my_X6_fold wG683 (c_X6_fold l D cs ad rfl) rfl ⟨Nat.le_of_ble_eq_true rfl, Nat.le_of_ble_eq_true rfl⟩ (Nat.le_of_ble_eq_true rfl) dX6_foldDivision_90 ?_
        refine x_bL hm (fun x_8 hm => ?_)
        refine x_lstore_n (lv' := [(3, .long x_8), (0, .ref (ad 0 0)), (5, .int b5), (6, .int b6), (7, .int b7)]) E dX6_foldDivision_93 rfl (by decide) rfl ?_
        refine x_iincB (lv' := fun x_9 => [(7, .int x_9), (3, .long x_8), (0, .ref (ad 0 0)), (5, .int b5), (6, .int b6)]) (j := 4) E dX6_foldDivision_94 rfl rfl (by decide) (fun _ => rfl) hm (fun x_9 hm => ?_)
        refine x_goto (tgt := 71) E dX6_foldDivision_97 (by decide) ?_
        exact x_weak [2, 1, 3, 4, 0] rfl ((ih _ hk100) x_8 b5 b6 x_9 w hm)
  have hL100 : ∀ (k61 : Int64 → Int32 → Int32 → Wd → Option (Int64 × Wd)) (hk61 : ∀ (b3 : Int64) (b5 : Int32) (b6 : Int32) (w : Wd), k61 b3 b5 b6 w = some (r, w') → XV p l e { frames := 4, cells := 0, slots := 0, locals := 107 } s m args below meth c 8 D cs ad (MQ below (xQ D cs ad (some (.long r)) w') args s 0 0 (xF ad)) 61 [(0, .ref (ad 0 0)), (3, .long b3), (5, .int b5), (6, .int b6)] [] w) (b3 : Int64) (b5 : Int32) (b6 : Int32) (w : Wd), X6_foldDivision_L100 k61 b3 b5 b6 w = some (r, w') → XV p l e { frames := 4, cells := 0, slots := 0, locals := 107 } s m args below meth c 8 D cs ad (MQ below (xQ D cs ad (some (.long r)) w') args s 0 0 (xF ad)) 100 [(0, .ref (ad 0 0)), (3, .long b3), (5, .int b5), (6, .int b6)] [] w := by
    intro k61 hk61 b3 b5 b6 w hm
    unfold X6_foldDivision_L100 at hm
    refine x_iincB (lv' := fun x_10 => [(6, .int x_10), (0, .ref (ad 0 0)), (3, .long b3), (5, .int b5)]) (j := 3) E dX6_foldDivision_100 rfl rfl (by decide) (fun _ => rfl) hm (fun x_10 hm => ?_)
    refine x_goto (tgt := 61) E dX6_foldDivision_103 (by decide) ?_
    exact x_weak [1, 2, 3, 0] rfl (hk61 b3 b5 x_10 w hm)
  have hL61 : ∀ (fuel : Nat) (b3 : Int64) (b5 : Int32) (b6 : Int32) (w : Wd), X6_foldDivision_L61 fuel b3 b5 b6 w = some (r, w') → XV p l e { frames := 4, cells := 0, slots := 0, locals := 107 } s m args below meth c 8 D cs ad (MQ below (xQ D cs ad (some (.long r)) w') args s 0 0 (xF ad)) 61 [(0, .ref (ad 0 0)), (3, .long b3), (5, .int b5), (6, .int b6)] [] w := by
    intro fuel
    induction fuel with
    | zero => intro b3 b5 b6 w hm; cases hm
    | succ fuel ih =>
      intro b3 b5 b6 w hm
      rw [X6_foldDivision_L61] at hm
      refine x_iload E dX6_foldDivision_61 3 rfl ?_
      refine x_iload E dX6_foldDivision_63 2 rfl ?_
      refine x_icmp_ge (tgt := 106) E dX6_foldDivision_65 (by decide) hm (fun _ hm => ?_) (fun _ hm => ?_)
      · refine x_lload_n E dX6_foldDivision_106 rfl 1 rfl ?_
        exact x_lretS E hm dX6_foldDivision_107
      · refine x_iconst (v := (iI 0)) E dX6_foldDivision_68 (by decide) ?_
        refine x_istore (lv' := [(7, .int (iI 0)), (0, .ref (ad 0 0)), (3, .long b3), (5, .int b5), (6, .int b6)]) E dX6_foldDivision_69 (by decide) rfl ?_
        exact x_weak [1, 2, 3, 4, 0] rfl ((hL71 1000 _ (hL100 _ (ih))) b3 b5 b6 (iI 0) w hm)
  unfold X6_foldDivision at hm
  refine x_aload_n E dX6_foldDivision_0 rfl 0 rfl ?_
  refine x_gf (v := .ref (ad 11 0)) E fr_X6_68 rfl rfl dX6_foldDivision_1 ?_
  refine x_aload_n E dX6_foldDivision_4 rfl 0 rfl ?_
  refine x_gf (v := .ref (ad 0 3)) E fr_X6_28 rfl rfl dX6_foldDivision_5 ?_
  refine x_aload_n E dX6_foldDivision_8 rfl 0 rfl ?_
  refine x_gf (v := .int (rd w 0 0 7)) E fr_X6_42 rfl rfl dX6_foldDivision_9 ?_
  refine x_aload_n E dX6_foldDivision_12 rfl 0 rfl ?_
  refine x_gf (v := .ref (ad 0 2)) E fr_X6_17 rfl rfl dX6_foldDivision_13 ?_
  refine x_aload_n E dX6_foldDivision_16 rfl 0 rfl ?_
  refine x_gf (v := .int (rd w 0 0 3)) E fr_X6_20 rfl rfl dX6_foldDivision_17 ?_
  obtain ⟨r_1, w_2, hc, hm⟩ := bI_inv hm
  refine x_callV (As := [.ref (ad 0 3), .int (rd w 0 0 7), .ref (ad 0 2), .int (rd w 0 0 3)]) (rest := []) E my_X1_divide wG625 (c_X1_divide l D cs ad hc) rfl rfl rfl ⟨Nat.le_of_ble_eq_true rfl, Nat.le_of_ble_eq_true rfl⟩ (Nat.le_of_ble_eq_true rfl) dX6_foldDivision_20 ?_
  refine x_if_ne (tgt := 28) E dX6_foldDivision_23 (by decide) hm (fun _ hm => ?_) (fun _ hm => ?_)
  · refine x_lload_n E dX6_foldDivision_28 rfl 1 rfl ?_
    refine x_aload_n E dX6_foldDivision_29 rfl 0 rfl ?_
    refine x_gf (v := .ref (ad 11 0)) E fr_X6_68 rfl rfl dX6_foldDivision_30 ?_
    obtain ⟨r_3, hc, hm⟩ := ob_inv hm
    refine x_callV (As := []) (rest := [.long a1]) E my_X1_worth wG645 (c_X1_worth l D cs ad hc) rfl rfl rfl ⟨Nat.le_of_ble_eq_true rfl, Nat.le_of_ble_eq_true rfl⟩ (Nat.le_of_ble_eq_true rfl) dX6_foldDivision_33 ?_
    refine x_i2l E dX6_foldDivision_36 ?_
    refine x_callS (As := [.long a1, .long (r_3.toInt64)]) (rest := []) E my_X6_fold wG683 (c_X6_fold l D cs ad rfl) rfl ⟨Nat.le_of_ble_eq_true rfl, Nat.le_of_ble_eq_true rfl⟩ (Nat.le_of_ble_eq_true rfl) dX6_foldDivision_37 ?_
    refine x_bL hm (fun x_4 hm => ?_)
    refine x_lstore_n (lv' := [(3, .long x_4), (0, .ref (ad 0 0)), (1, .long a1)]) E dX6_foldDivision_40 rfl (by decide) rfl ?_
    refine x_aload_n E dX6_foldDivision_41 rfl 1 rfl ?_
    refine x_gf (v := .ref (ad 11 0)) E fr_X6_68 rfl rfl dX6_foldDivision_42 ?_
    obtain ⟨r_5, hc, hm⟩ := ob_inv hm
    refine x_callV (As := []) (rest := []) E my_X1_pieceCount wG649 (c_X1_pieceCount l D cs ad hc) rfl rfl rfl ⟨Nat.le_of_ble_eq_true rfl, Nat.le_of_ble_eq_true rfl⟩ (Nat.le_of_ble_eq_true rfl) dX6_foldDivision_45 ?_
    refine x_istore (lv' := [(5, .int r_5), (3, .long x_4), (0, .ref (ad 0 0)), (1, .long a1)]) E dX6_foldDivision_48 (by decide) rfl ?_
    refine x_lload_n E dX6_foldDivision_50 rfl 1 rfl ?_
    refine x_iload E dX6_foldDivision_51 0 rfl ?_
    refine x_i2l E dX6_foldDivision_53 ?_
    refine x_callS (As := [.long x_4, .long (r_5.toInt64)]) (rest := []) E my_X6_fold wG683 (c_X6_fold l D cs ad rfl) rfl ⟨Nat.le_of_ble_eq_true rfl, Nat.le_of_ble_eq_true rfl⟩ (Nat.le_of_ble_eq_true rfl) dX6_foldDivision_54 ?_
    refine x_bL hm (fun x_6 hm => ?_)
    refine x_lstore_n (lv' := [(3, .long x_6), (5, .int r_5), (0, .ref (ad 0 0)), (1, .long a1)]) E dX6_foldDivision_57 rfl (by decide) rfl ?_
    refine x_iconst (v := (iI 0)) E dX6_foldDivision_58 (by decide) ?_
    refine x_istore (lv' := [(6, .int (iI 0)), (3, .long x_6), (5, .int r_5), (0, .ref (ad 0 0)), (1, .long a1)]) E dX6_foldDivision_59 (by decide) rfl ?_
    exact x_weak [3, 1, 2, 0] rfl ((hL61 1000) x_6 r_5 (iI 0) w_2 hm)
  · refine x_lload_n E dX6_foldDivision_26 rfl 1 rfl ?_
    exact x_lretS E hm dX6_foldDivision_27
set_option maxRecDepth 100000 in
set_option maxHeartbeats 4000000 in
theorem c_X6_digest (l : Launch) (D : va_G) (cs : vCs) (ad : Nat → Nat → Nat) {w : Wd} {r : Int64} {w' : Wd} (hm : X6_digest w = some (r, w')) : Mc l yX6_digest cX6_digest 4 (some .long) 7 238 D cs ad [.ref (ad 0 0)] w (some (.long r)) w' := by
  refine Mc.of (by decide) (Nat.le_of_ble_eq_true rfl) ?_
  intro p e s m args below meth c E
  replace E : EV p m c cX6_digest 4 s args RX6 yX6_digest (some .long) meth D cs ad := E
  have hL6 : ∀ (fuel : Nat) (k27 : Int64 → Wd → Option (Int64 × Wd)) (hk27 : ∀ (b1 : Int64) (w : Wd), k27 b1 w = some (r, w') → XV p l e { frames := 7, cells := 0, slots := 0, locals := 238 } s m args below meth c 4 D cs ad (MQ below (xQ D cs ad (some (.long r)) w') args s 0 0 (xF ad)) 27 [(0, .ref (ad 0 0)), (1, .long b1)] [] w) (b1 : Int64) (b3 : Int32) (w : Wd), X6_digest_L6 fuel k27 b1 b3 w = some (r, w') → XV p l e { frames := 7, cells := 0, slots := 0, locals := 238 } s m args below meth c 4 D cs ad (MQ below (xQ D cs ad (some (.long r)) w') args s 0 0 (xF ad)) 6 [(0, .ref (ad 0 0)), (1, .long b1), (3, .int b3)] [] w := by
    intro fuel
    induction fuel with
    | zero => intro k27 hk27 b1 b3 w hm; cases hm
    | succ fuel ih =>
      intro k27 hk27 b1 b3 w hm
      rw [X6_digest_L6] at hm
      refine x_iload_n E dX6_digest_6 rfl 2 rfl ?_
      refine x_aload_n E dX6_digest_7 rfl 0 rfl ?_
      refine x_gf (v := .int (rd w 0 0 7)) E fr_X6_42 rfl rfl dX6_digest_8 ?_
      refine x_icmp_ge (tgt := 27) E dX6_digest_11 (by decide) hm (fun _ hm => ?_) (fun _ hm => ?_)
      · exact x_weak [0, 1] rfl (hk27 b1 w hm)
      · refine x_aload_n E dX6_digest_14 rfl 0 rfl ?_
        refine x_lload_n E dX6_digest_15 rfl 1 rfl ?_
        refine x_iload_n E dX6_digest_16 rfl 2 rfl ?_
        obtain ⟨r_2, w_3, hc, hm⟩ := bI_inv hm
        refine x_callV (As := [.long b1, .int b3]) (rest := []) E my_X6_foldCode wG678 (c_X6_foldCode l D cs ad hc) rfl rfl rfl ⟨Nat.le_of_ble_eq_true rfl, Nat.le_of_ble_eq_true rfl⟩ (Nat.le_of_ble_eq_true rfl) dX6_digest_17 ?_
        refine x_lstore_n (lv' := [(1, .long r_2), (0, .ref (ad 0 0)), (3, .int b3)]) E dX6_digest_20 rfl (by decide) rfl ?_
        refine x_iincB (lv' := fun x_4 => [(3, .int x_4), (1, .long r_2), (0, .ref (ad 0 0))]) (j := 2) E dX6_digest_21 rfl rfl (by decide) (fun _ => rfl) hm (fun x_4 hm => ?_)
        refine x_goto (tgt := 6) E dX6_digest_24 (by decide) ?_
        exact x_weak [2, 1, 0] rfl ((ih _ hk27) r_2 x_4 w_3 hm)
  have hL29 : ∀ (fuel : Nat) (k55 : Int64 → Wd → Option (Int64 × Wd)) (hk55 : ∀ (b1 : Int64) (w : Wd), k55 b1 w = some (r, w') → XV p l e { frames := 7, cells := 0, slots := 0, locals := 238 } s m args below meth c 4 D cs ad (MQ below (xQ D cs ad (some (.long r)) w') args s 0 0 (xF ad)) 55 [(0, .ref (ad 0 0)), (1, .long b1)] [] w) (b1 : Int64) (b3 : Int32) (w : Wd), X6_digest_L29 fuel k55 b1 b3 w = some (r, w') → XV p l e { frames := 7, cells := 0, slots := 0, locals := 238 } s m args below meth c 4 D cs ad (MQ below (xQ D cs ad (some (.long r)) w') args s 0 0 (xF ad)) 29 [(0, .ref (ad 0 0)), (1, .long b1), (3, .int b3)] [] w := by
    intro fuel
    induction fuel with
    | zero => intro k55 hk55 b1 b3 w hm; cases hm
    | succ fuel ih =>
      intro k55 hk55 b1 b3 w hm
      rw [X6_digest_L29] at hm
      refine x_iload_n E dX6_digest_29 rfl 2 rfl ?_
      refine x_aload_n E dX6_digest_30 rfl 0 rfl ?_
      refine x_gf (v := .int (rd w 0 0 3)) E fr_X6_20 rfl rfl dX6_digest_31 ?_
      refine x_icmp_ge (tgt := 55) E dX6_digest_34 (by decide) hm (fun _ hm => ?_) (fun _ hm => ?_)
      · exact x_weak [0, 1] rfl (hk55 b1 w hm)
      · refine x_lload_n E dX6_digest_37 rfl 1 rfl ?_
        refine x_aload_n E dX6_digest_38 rfl 0 rfl ?_
        refine x_gf (v := .ref (ad 0 2)) E fr_X6_17 rfl rfl dX6_digest_39 ?_
        refine x_iload_n E dX6_digest_42 rfl 2 rfl ?_
        refine x_iald E rfl rfl (by decide) dX6_digest_43 hm (fun x_5 hm => ?_)
        refine x_i2l E dX6_digest_44 ?_
        refine x_callS (As := [.long b1, .long (x_5.toInt64)]) (rest := []) E my_X6_fold wG683 (c_X6_fold l D cs ad rfl) rfl ⟨Nat.le_of_ble_eq_true rfl, Nat.le_of_ble_eq_true rfl⟩ (Nat.le_of_ble_eq_true rfl) dX6_digest_45 ?_
        refine x_bL hm (fun x_6 hm => ?_)
        refine x_lstore_n (lv' := [(1, .long x_6), (0, .ref (ad 0 0)), (3, .int b3)]) E dX6_digest_48 rfl (by decide) rfl ?_
        refine x_iincB (lv' := fun x_7 => [(3, .int x_7), (1, .long x_6), (0, .ref (ad 0 0))]) (j := 2) E dX6_digest_49 rfl rfl (by decide) (fun _ => rfl) hm (fun x_7 hm => ?_)
        refine x_goto (tgt := 29) E dX6_digest_52 (by decide) ?_
        exact x_weak [2, 1, 0] rfl ((ih _ hk55) x_6 x_7 w hm)
  have hL73 : ∀ (fuel : Nat) (k99 : Int64 → Wd → Option (Int64 × Wd)) (hk99 : ∀ (b1 : Int64) (w : Wd), k99 b1 w = some (r, w') → XV p l e { frames := 7, cells := 0, slots := 0, locals := 238 } s m args below meth c 4 D cs ad (MQ below (xQ D cs ad (some (.long r)) w') args s 0 0 (xF ad)) 99 [(0, .ref (ad 0 0)), (1, .long b1)] [] w) (b1 : Int64) (b3 : Int32) (w : Wd), X6_digest_L73 fuel k99 b1 b3 w = some (r, w') → XV p l e { frames := 7, cells := 0, slots := 0, locals := 238 } s m args below meth c 4 D cs ad (MQ below (xQ D cs ad (some (.long r)) w') args s 0 0 (xF ad)) 73 [(0, .ref (ad 0 0)), (1, .long b1), (3, .int b3)] [] w := by
    intro fuel
    induction fuel with
    | zero => intro k99 hk99 b1 b3 w hm; cases hm
    | succ fuel ih =>
      intro k99 hk99 b1 b3 w hm
      rw [X6_digest_L73] at hm
      refine x_iload_n E dX6_digest_73 rfl 2 rfl ?_
      refine x_aload_n E dX6_digest_74 rfl 0 rfl ?_
      refine x_gf (v := .int (rd w 0 0 1)) E fr_X6_13 rfl rfl dX6_digest_75 ?_
      refine x_icmp_ge (tgt := 99) E dX6_digest_78 (by decide) hm (fun _ hm => ?_) (fun _ hm => ?_)
      · exact x_weak [0, 1] rfl (hk99 b1 w hm)
      · refine x_lload_n E dX6_digest_81 rfl 1 rfl ?_
        refine x_aload_n E dX6_digest_82 rfl 0 rfl ?_
        refine x_gf (v := .ref (ad 0 1)) E fr_X6_9 rfl rfl dX6_digest_83 ?_
        refine x_iload_n E dX6_digest_86 rfl 2 rfl ?_
        refine x_iald E rfl rfl (by decide) dX6_digest_87 hm (fun x_12 hm => ?_)
        refine x_i2l E dX6_digest_88 ?_
        refine x_callS (As := [.long b1, .long (x_12.toInt64)]) (rest := []) E my_X6_fold wG683 (c_X6_fold l D cs ad rfl) rfl ⟨Nat.le_of_ble_eq_true rfl, Nat.le_of_ble_eq_true rfl⟩ (Nat.le_of_ble_eq_true rfl) dX6_digest_89 ?_
        refine x_bL hm (fun x_13 hm => ?_)
        refine x_lstore_n (lv' := [(1, .long x_13), (0, .ref (ad 0 0)), (3, .int b3)]) E dX6_digest_92 rfl (by decide) rfl ?_
        refine x_iincB (lv' := fun x_14 => [(3, .int x_14), (1, .long x_13), (0, .ref (ad 0 0))]) (j := 2) E dX6_digest_93 rfl rfl (by decide) (fun _ => rfl) hm (fun x_14 hm => ?_)
        refine x_goto (tgt := 73) E dX6_digest_96 (by decide) ?_
        exact x_weak [2, 1, 0] rfl ((ih _ hk99) x_13 x_14 w hm)
  have hL101 : ∀ (fuel : Nat) (b1 : Int64) (b3 : Int32) (w : Wd), X6_digest_L101 fuel b1 b3 w = some (r, w') → XV p l e { frames := 7, cells := 0, slots := 0, locals := 238 } s m args below meth c 4 D cs ad (MQ below (xQ D cs ad (some (.long r)) w') args s 0 0 (xF ad)) 101 [(0, .ref (ad 0 0)), (1, .long b1), (3, .int b3)] [] w := by
    intro fuel
    induction fuel with
    | zero => intro b1 b3 w hm; cases hm
    | succ fuel ih =>
      intro b1 b3 w hm
      rw [X6_digest_L101] at hm
      refine x_iload_n E dX6_digest_101 rfl 2 rfl ?_
      refine x_bipush (v := (iI 8)) E dX6_digest_102 (by decide) ?_
      refine x_icmp_ge (tgt := 124) E dX6_digest_104 (by decide) hm (fun _ hm => ?_) (fun _ hm => ?_)
      · refine x_lload_n E dX6_digest_124 rfl 1 rfl ?_
        exact x_lretS E hm dX6_digest_125
      · refine x_lload_n E dX6_digest_107 rfl 1 rfl ?_
        refine x_aload_n E dX6_digest_108 rfl 0 rfl ?_
        refine x_iload_n E dX6_digest_109 rfl 2 rfl ?_
        obtain ⟨r_15, hc, hm⟩ := ob_inv hm
        refine x_callV (As := [.int b3]) (rest := [.long b1]) E my_X6_count wG696 (c_X6_count l D cs ad hc) rfl rfl rfl ⟨Nat.le_of_ble_eq_true rfl, Nat.le_of_ble_eq_true rfl⟩ (Nat.le_of_ble_eq_true rfl) dX6_digest_110 ?_
        refine x_i2l E dX6_digest_113 ?_
        refine x_callS (As := [.long b1, .long (r_15.toInt64)]) (rest := []) E my_X6_fold wG683 (c_X6_fold l D cs ad rfl) rfl ⟨Nat.le_of_ble_eq_true rfl, Nat.le_of_ble_eq_true rfl⟩ (Nat.le_of_ble_eq_true rfl) dX6_digest_114 ?_
        refine x_bL hm (fun x_16 hm => ?_)
        refine x_lstore_n (lv' := [(1, .long x_16), (0, .ref (ad 0 0)), (3, .int b3)]) E dX6_digest_117 rfl (by decide) rfl ?_
        refine x_iincB (lv' := fun x_17 => [(3, .int x_17), (1, .long x_16), (0, .ref (ad 0 0))]) (j := 2) E dX6_digest_118 rfl rfl (by decide) (fun _ => rfl) hm (fun x_17 hm => ?_)
        refine x_goto (tgt := 101) E dX6_digest_121 (by decide) ?_
        exact x_weak [2, 1, 0] rfl ((ih) x_16 x_17 w hm)
  have hL99 : ∀ (b1 : Int64) (w : Wd), X6_digest_L99 b1 w = some (r, w') → XV p l e { frames := 7, cells := 0, slots := 0, locals := 238 } s m args below meth c 4 D cs ad (MQ below (xQ D cs ad (some (.long r)) w') args s 0 0 (xF ad)) 99 [(0, .ref (ad 0 0)), (1, .long b1)] [] w := by
    intro b1 w hm
    unfold X6_digest_L99 at hm
    refine x_iconst (v := (iI 0)) E dX6_digest_99 (by decide) ?_
    refine x_istore_n (lv' := [(3, .int (iI 0)), (0, .ref (ad 0 0)), (1, .long b1)]) E dX6_digest_100 rfl (by decide) rfl ?_
    exact x_weak [1, 2, 0] rfl ((hL101 1000) b1 (iI 0) w hm)
  have hL55 : ∀ (b1 : Int64) (w : Wd), X6_digest_L55 b1 w = some (r, w') → XV p l e { frames := 7, cells := 0, slots := 0, locals := 238 } s m args below meth c 4 D cs ad (MQ below (xQ D cs ad (some (.long r)) w') args s 0 0 (xF ad)) 55 [(0, .ref (ad 0 0)), (1, .long b1)] [] w := by
    intro b1 w hm
    unfold X6_digest_L55 at hm
    refine x_lload_n E dX6_digest_55 rfl 1 rfl ?_
    refine x_aload_n E dX6_digest_56 rfl 0 rfl ?_
    obtain ⟨r_8, hc, hm⟩ := ob_inv hm
    refine x_callV (As := []) (rest := [.long b1]) E my_X6_judged wG691 (c_X6_judged l D cs ad hc) rfl rfl rfl ⟨Nat.le_of_ble_eq_true rfl, Nat.le_of_ble_eq_true rfl⟩ (Nat.le_of_ble_eq_true rfl) dX6_digest_57 ?_
    refine x_i2l E dX6_digest_60 ?_
    refine x_callS (As := [.long b1, .long (r_8.toInt64)]) (rest := []) E my_X6_fold wG683 (c_X6_fold l D cs ad rfl) rfl ⟨Nat.le_of_ble_eq_true rfl, Nat.le_of_ble_eq_true rfl⟩ (Nat.le_of_ble_eq_true rfl) dX6_digest_61 ?_
    refine x_bL hm (fun x_9 hm => ?_)
    refine x_lstore_n (lv' := [(1, .long x_9), (0, .ref (ad 0 0))]) E dX6_digest_64 rfl (by decide) rfl ?_
    refine x_aload_n E dX6_digest_65 rfl 1 rfl ?_
    refine x_lload_n E dX6_digest_66 rfl 0 rfl ?_
    obtain ⟨r_10, w_11, hc, hm⟩ := bI_inv hm
    refine x_callV (As := [.long x_9]) (rest := []) E my_X6_foldDivision wG692 (c_X6_foldDivision l D cs ad hc) rfl rfl rfl ⟨Nat.le_of_ble_eq_true rfl, Nat.le_of_ble_eq_true rfl⟩ (Nat.le_of_ble_eq_true rfl) dX6_digest_67 ?_
    refine x_lstore_n (lv' := [(1, .long r_10), (0, .ref (ad 0 0))]) E dX6_digest_70 rfl (by decide) rfl ?_
    refine x_iconst (v := (iI 0)) E dX6_digest_71 (by decide) ?_
    refine x_istore_n (lv' := [(3, .int (iI 0)), (1, .long r_10), (0, .ref (ad 0 0))]) E dX6_digest_72 rfl (by decide) rfl ?_
    exact x_weak [2, 1, 0] rfl ((hL73 1000 _ (hL99)) r_10 (iI 0) w_11 hm)
  have hL27 : ∀ (b1 : Int64) (w : Wd), X6_digest_L27 b1 w = some (r, w') → XV p l e { frames := 7, cells := 0, slots := 0, locals := 238 } s m args below meth c 4 D cs ad (MQ below (xQ D cs ad (some (.long r)) w') args s 0 0 (xF ad)) 27 [(0, .ref (ad 0 0)), (1, .long b1)] [] w := by
    intro b1 w hm
    unfold X6_digest_L27 at hm
    refine x_iconst (v := (iI 0)) E dX6_digest_27 (by decide) ?_
    refine x_istore_n (lv' := [(3, .int (iI 0)), (0, .ref (ad 0 0)), (1, .long b1)]) E dX6_digest_28 rfl (by decide) rfl ?_
    exact x_weak [1, 2, 0] rfl ((hL29 1000 _ (hL55)) b1 (iI 0) w hm)
  unfold X6_digest at hm
  refine x_ldc2 (v := (1511 : Int64)) E wG677 dX6_digest_0 ?_
  refine x_bL hm (fun x_1 hm => ?_)
  refine x_lstore_n (lv' := [(1, .long x_1), (0, .ref (ad 0 0))]) E dX6_digest_3 rfl (by decide) rfl ?_
  refine x_iconst (v := (iI 0)) E dX6_digest_4 (by decide) ?_
  refine x_istore_n (lv' := [(3, .int (iI 0)), (1, .long x_1), (0, .ref (ad 0 0))]) E dX6_digest_5 rfl (by decide) rfl ?_
  exact x_weak [2, 1, 0] rfl ((hL6 1000 _ (hL27)) x_1 (iI 0) w hm)

set_option maxRecDepth 100000 in
set_option maxHeartbeats 4000000 in
theorem c_X7_layCuts (l : Launch) (D : va_G) (cs : vCs) (ad : Nat → Nat → Nat) {w : Wd} {w' : Wd} (hm : X7_layCuts w = some w') : Mc l yX7_layCuts cX7_layCuts 4 none 4 92 D cs ad [.ref (ad 12 0)] w none w' := by
  refine Mc.of (by decide) (Nat.le_of_ble_eq_true rfl) ?_
  intro p e s m args below meth c E
  replace E : EV p m c cX7_layCuts 4 s args RX7 yX7_layCuts none meth D cs ad := E
  have hL62 : ∀ (fuel : Nat) (k111 : Int32 → Int32 → Wd → Option Wd) (hk111 : ∀ (b1 : Int32) (b2 : Int32) (w : Wd), k111 b1 b2 w = some w' → XV p l e { frames := 4, cells := 0, slots := 0, locals := 92 } s m args below meth c 4 D cs ad (MQ below (xQ D cs ad none w') args s 0 0 (xF ad)) 111 [(0, .ref (ad 12 0)), (1, .int b1), (2, .int b2)] [] w) (b1 : Int32) (b2 : Int32) (b3 : Int32) (w : Wd), X7_layCuts_L62 fuel k111 b1 b2 b3 w = some w' → XV p l e { frames := 4, cells := 0, slots := 0, locals := 92 } s m args below meth c 4 D cs ad (MQ below (xQ D cs ad none w') args s 0 0 (xF ad)) 62 [(0, .ref (ad 12 0)), (1, .int b1), (2, .int b2), (3, .int b3)] [] w := by
    intro fuel
    induction fuel with
    | zero => intro k111 hk111 b1 b2 b3 w hm; cases hm
    | succ fuel ih =>
      intro k111 hk111 b1 b2 b3 w hm
      rw [X7_layCuts_L62] at hm
      refine x_iload_n E dX7_layCuts_62 rfl 3 rfl ?_
      refine x_aload_n E dX7_layCuts_63 rfl 0 rfl ?_
      refine x_gf (v := .int (rd w 12 0 8)) E fr_X7_133 rfl rfl dX7_layCuts_64 ?_
      refine x_icmp_ge (tgt := 111) E dX7_layCuts_67 (by decide) hm (fun _ hm => ?_) (fun _ hm => ?_)
      · exact x_weak [0, 1, 2] rfl (hk111 b1 b2 w hm)
      · refine x_aload_n E dX7_layCuts_70 rfl 0 rfl ?_
        refine x_gf (v := .int (rd w 12 0 14)) E fr_X7_155 rfl rfl dX7_layCuts_71 ?_
        refine x_iconst (v := (iI (-1))) E dX7_layCuts_74 (by decide) ?_
        refine x_icmp_eq (tgt := 111) E dX7_layCuts_75 (by decide) hm (fun _ hm => ?_) (fun _ hm => ?_)
        · exact x_weak [0, 1, 2] rfl (hk111 b1 b2 w hm)
        · refine x_aload_n E dX7_layCuts_78 rfl 0 rfl ?_
          refine x_iload_n E dX7_layCuts_79 rfl 2 rfl ?_
          refine x_aload_n E dX7_layCuts_80 rfl 0 rfl ?_
          refine x_gf (v := .ref (ad 12 5)) E fr_X7_26 rfl rfl dX7_layCuts_81 ?_
          refine x_iload_n E dX7_layCuts_84 rfl 3 rfl ?_
          refine x_iald E rfl rfl (by decide) dX7_layCuts_85 hm (fun x_8 hm => ?_)
          obtain ⟨w_9, hc, hm⟩ := ob_inv hm
          refine x_callV (As := [.int b2, .int x_8]) (rest := []) E my_X7_goOn wG922 (c_X7_goOn l D cs ad hc) rfl rfl rfl ⟨Nat.le_of_ble_eq_true rfl, Nat.le_of_ble_eq_true rfl⟩ (Nat.le_of_ble_eq_true rfl) dX7_layCuts_86 ?_
          refine x_aload_n E dX7_layCuts_89 rfl 0 rfl ?_
          refine x_gf (v := .int (rd w_9 12 0 14)) E fr_X7_155 rfl rfl dX7_layCuts_90 ?_
          refine x_if_ne (tgt := 105) E dX7_layCuts_93 (by decide) hm (fun _ hm => ?_) (fun _ hm => ?_)
          · refine x_iincB (lv' := fun x_10 => [(3, .int x_10), (0, .ref (ad 12 0)), (1, .int b1), (2, .int b2)]) (j := 3) E dX7_layCuts_105 rfl rfl (by decide) (fun _ => rfl) hm (fun x_10 hm => ?_)
            refine x_goto (tgt := 62) E dX7_layCuts_108 (by decide) ?_
            exact x_weak [1, 2, 3, 0] rfl ((ih _ hk111) b1 b2 x_10 w_9 hm)
          · refine x_aload_n E dX7_layCuts_96 rfl 0 rfl ?_
            refine x_iload_n E dX7_layCuts_97 rfl 1 rfl ?_
            refine x_iload_n E dX7_layCuts_98 rfl 3 rfl ?_
            refine x_iconst (v := (iI 1)) E dX7_layCuts_99 (by decide) ?_
            refine x_iadd E dX7_layCuts_100 ?_
            refine x_iload_n E dX7_layCuts_101 rfl 2 rfl ?_
            obtain ⟨w_11, hc, hm⟩ := ob_inv hm
            refine x_callV (As := [.int b1, .int (b3 + (iI 1)), .int b2]) (rest := []) E my_X7_tryPiece wG1101 (c_X7_tryPiece l D cs ad hc) rfl rfl rfl ⟨Nat.le_of_ble_eq_true rfl, Nat.le_of_ble_eq_true rfl⟩ (Nat.le_of_ble_eq_true rfl) dX7_layCuts_102 ?_
            refine x_iincB (lv' := fun x_12 => [(3, .int x_12), (0, .ref (ad 12 0)), (1, .int b1), (2, .int b2)]) (j := 3) E dX7_layCuts_105 rfl rfl (by decide) (fun _ => rfl) hm (fun x_12 hm => ?_)
            refine x_goto (tgt := 62) E dX7_layCuts_108 (by decide) ?_
            exact x_weak [1, 2, 3, 0] rfl ((ih _ hk111) b1 b2 x_12 w_11 hm)
  have hL111 : ∀ (k48 : Int32 → Int32 → Wd → Option Wd) (hk48 : ∀ (b1 : Int32) (b2 : Int32) (w : Wd), k48 b1 b2 w = some w' → XV p l e { frames := 4, cells := 0, slots := 0, locals := 92 } s m args below meth c 4 D cs ad (MQ below (xQ D cs ad none w') args s 0 0 (xF ad)) 48 [(0, .ref (ad 12 0)), (1, .int b1), (2, .int b2)] [] w) (b1 : Int32) (b2 : Int32) (w : Wd), X7_layCuts_L111 k48 b1 b2 w = some w' → XV p l e { frames := 4, cells := 0, slots := 0, locals := 92 } s m args below meth c 4 D cs ad (MQ below (xQ D cs ad none w') args s 0 0 (xF ad)) 111 [(0, .ref (ad 12 0)), (1, .int b1), (2, .int b2)] [] w := by
    intro k48 hk48 b1 b2 w hm
    unfold X7_layCuts_L111 at hm
    refine x_iincB (lv' := fun x_13 => [(2, .int x_13), (0, .ref (ad 12 0)), (1, .int b1)]) (j := 2) E dX7_layCuts_111 rfl rfl (by decide) (fun _ => rfl) hm (fun x_13 hm => ?_)
    refine x_goto (tgt := 48) E dX7_layCuts_114 (by decide) ?_
    exact x_weak [1, 2, 0] rfl (hk48 b1 x_13 w hm)
  have hL48 : ∀ (fuel : Nat) (k117 : Int32 → Wd → Option Wd) (hk117 : ∀ (b1 : Int32) (w : Wd), k117 b1 w = some w' → XV p l e { frames := 4, cells := 0, slots := 0, locals := 92 } s m args below meth c 4 D cs ad (MQ below (xQ D cs ad none w') args s 0 0 (xF ad)) 117 [(0, .ref (ad 12 0)), (1, .int b1)] [] w) (b1 : Int32) (b2 : Int32) (w : Wd), X7_layCuts_L48 fuel k117 b1 b2 w = some w' → XV p l e { frames := 4, cells := 0, slots := 0, locals := 92 } s m args below meth c 4 D cs ad (MQ below (xQ D cs ad none w') args s 0 0 (xF ad)) 48 [(0, .ref (ad 12 0)), (1, .int b1), (2, .int b2)] [] w := by
    intro fuel
    induction fuel with
    | zero => intro k117 hk117 b1 b2 w hm; cases hm
    | succ fuel ih =>
      intro k117 hk117 b1 b2 w hm
      rw [X7_layCuts_L48] at hm
      refine x_iload_n E dX7_layCuts_48 rfl 2 rfl ?_
      refine x_aload_n E dX7_layCuts_49 rfl 0 rfl ?_
      refine x_gf (v := .int (rd w 12 0 0)) E fr_X7_110 rfl rfl dX7_layCuts_50 ?_
      refine x_icmp_ge (tgt := 117) E dX7_layCuts_53 (by decide) hm (fun _ hm => ?_) (fun _ hm => ?_)
      · exact x_weak [0, 1] rfl (hk117 b1 w hm)
      · refine x_aload_n E dX7_layCuts_56 rfl 0 rfl ?_
        obtain ⟨w_6, hc, hm⟩ := ob_inv hm
        refine x_callV (As := []) (rest := []) E my_X7_begin wG918 (c_X7_begin l D cs ad hc) rfl rfl rfl ⟨Nat.le_of_ble_eq_true rfl, Nat.le_of_ble_eq_true rfl⟩ (Nat.le_of_ble_eq_true rfl) dX7_layCuts_57 ?_
        refine x_iload_n E dX7_layCuts_60 rfl 1 rfl ?_
        refine x_istore_n (lv' := [(3, .int b1), (0, .ref (ad 12 0)), (1, .int b1), (2, .int b2)]) E dX7_layCuts_61 rfl (by decide) rfl ?_
        exact x_weak [1, 2, 3, 0] rfl ((hL62 1000 _ (hL111 _ (ih _ hk117))) b1 b2 b1 w_6 hm)
  have hL117 : ∀ (k27 : Int32 → Wd → Option Wd) (hk27 : ∀ (b1 : Int32) (w : Wd), k27 b1 w = some w' → XV p l e { frames := 4, cells := 0, slots := 0, locals := 92 } s m args below meth c 4 D cs ad (MQ below (xQ D cs ad none w') args s 0 0 (xF ad)) 27 [(0, .ref (ad 12 0)), (1, .int b1)] [] w) (b1 : Int32) (w : Wd), X7_layCuts_L117 k27 b1 w = some w' → XV p l e { frames := 4, cells := 0, slots := 0, locals := 92 } s m args below meth c 4 D cs ad (MQ below (xQ D cs ad none w') args s 0 0 (xF ad)) 117 [(0, .ref (ad 12 0)), (1, .int b1)] [] w := by
    intro k27 hk27 b1 w hm
    unfold X7_layCuts_L117 at hm
    refine x_iincB (lv' := fun x_7 => [(1, .int x_7), (0, .ref (ad 12 0))]) (j := 1) E dX7_layCuts_117 rfl rfl (by decide) (fun _ => rfl) hm (fun x_7 hm => ?_)
    refine x_goto (tgt := 27) E dX7_layCuts_120 (by decide) ?_
    exact x_weak [1, 0] rfl (hk27 x_7 w hm)
  have hL27 : ∀ (fuel : Nat) (b1 : Int32) (w : Wd), X7_layCuts_L27 fuel b1 w = some w' → XV p l e { frames := 4, cells := 0, slots := 0, locals := 92 } s m args below meth c 4 D cs ad (MQ below (xQ D cs ad none w') args s 0 0 (xF ad)) 27 [(0, .ref (ad 12 0)), (1, .int b1)] [] w := by
    intro fuel
    induction fuel with
    | zero => intro b1 w hm; cases hm
    | succ fuel ih =>
      intro b1 w hm
      rw [X7_layCuts_L27] at hm
      refine x_iload_n E dX7_layCuts_27 rfl 1 rfl ?_
      refine x_if_lt (tgt := 123) E dX7_layCuts_28 (by decide) hm (fun _ hm => ?_) (fun _ hm => ?_)
      · exact x_vretS E hm dX7_layCuts_123
      · refine x_aload_n E dX7_layCuts_31 rfl 0 rfl ?_
        refine x_gf (v := .ref (ad 12 16)) E fr_X7_60 rfl rfl dX7_layCuts_32 ?_
        refine x_iload_n E dX7_layCuts_35 rfl 1 rfl ?_
        refine x_ldc (v := (iI (-100000))) E wG981 dX7_layCuts_36 ?_
        refine x_iast E rfl rfl (by decide) dX7_layCuts_38 hm (fun w_4 hm => ?_)
        refine x_aload_n E dX7_layCuts_39 rfl 0 rfl ?_
        refine x_gf (v := .ref (ad 12 17)) E fr_X7_63 rfl rfl dX7_layCuts_40 ?_
        refine x_iload_n E dX7_layCuts_43 rfl 1 rfl ?_
        refine x_iconst (v := (iI 0)) E dX7_layCuts_44 (by decide) ?_
        refine x_iast E rfl rfl (by decide) dX7_layCuts_45 hm (fun w_5 hm => ?_)
        refine x_iconst (v := (iI 0)) E dX7_layCuts_46 (by decide) ?_
        refine x_istore_n (lv' := [(2, .int (iI 0)), (0, .ref (ad 12 0)), (1, .int b1)]) E dX7_layCuts_47 rfl (by decide) rfl ?_
        exact x_weak [1, 2, 0] rfl ((hL48 1000 _ (hL117 _ (ih))) b1 (iI 0) w_5 hm)
  unfold X7_layCuts at hm
  refine x_aload_n E dX7_layCuts_0 rfl 0 rfl ?_
  refine x_gf (v := .ref (ad 12 16)) E fr_X7_60 rfl rfl dX7_layCuts_1 ?_
  refine x_aload_n E dX7_layCuts_4 rfl 0 rfl ?_
  refine x_gf (v := .int (rd w 12 0 8)) E fr_X7_133 rfl rfl dX7_layCuts_5 ?_
  refine x_iconst (v := (iI 0)) E dX7_layCuts_8 (by decide) ?_
  refine x_iast E rfl rfl (by decide) dX7_layCuts_9 hm (fun w_1 hm => ?_)
  refine x_aload_n E dX7_layCuts_10 rfl 0 rfl ?_
  refine x_gf (v := .ref (ad 12 17)) E fr_X7_63 rfl rfl dX7_layCuts_11 ?_
  refine x_aload_n E dX7_layCuts_14 rfl 0 rfl ?_
  refine x_gf (v := .int (rd w_1 12 0 8)) E fr_X7_133 rfl rfl dX7_layCuts_15 ?_
  refine x_iconst (v := (iI 0)) E dX7_layCuts_18 (by decide) ?_
  refine x_iast E rfl rfl (by decide) dX7_layCuts_19 hm (fun w_2 hm => ?_)
  refine x_aload_n E dX7_layCuts_20 rfl 0 rfl ?_
  refine x_gf (v := .int (rd w_2 12 0 8)) E fr_X7_133 rfl rfl dX7_layCuts_21 ?_
  refine x_iconst (v := (iI 1)) E dX7_layCuts_24 (by decide) ?_
  refine x_isub E dX7_layCuts_25 ?_
  refine x_bI hm (fun x_3 hm => ?_)
  refine x_istore_n (lv' := [(1, .int x_3), (0, .ref (ad 12 0))]) E dX7_layCuts_26 rfl (by decide) rfl ?_
  exact x_weak [1, 0] rfl ((hL27 1000) x_3 w_2 hm)
set_option maxRecDepth 100000 in
set_option maxHeartbeats 4000000 in
theorem c_X7_areCuts (l : Launch) (D : va_G) (cs : vCs) (ad : Nat → Nat → Nat) {w : Wd} {r : Int32} {w' : Wd} (hm : X7_areCuts w = some (r, w')) : Mc l yX7_areCuts cX7_areCuts 1 (some .boolean) 5 115 D cs ad [.ref (ad 12 0)] w (some (.int r)) w' := by
  refine Mc.of (by decide) (Nat.le_of_ble_eq_true rfl) ?_
  intro p e s m args below meth c E
  replace E : EV p m c cX7_areCuts 1 s args RX7 yX7_areCuts (some .boolean) meth D cs ad := E
  unfold X7_areCuts at hm
  refine x_aload_n E dX7_areCuts_0 rfl 0 rfl ?_
  obtain ⟨w_1, hc, hm⟩ := ob_inv hm
  refine x_callV (As := []) (rest := []) E my_X7_layCuts wG1097 (c_X7_layCuts l D cs ad hc) rfl rfl rfl ⟨Nat.le_of_ble_eq_true rfl, Nat.le_of_ble_eq_true rfl⟩ (Nat.le_of_ble_eq_true rfl) dX7_areCuts_1 ?_
  refine x_aload_n E dX7_areCuts_4 rfl 0 rfl ?_
  refine x_gf (v := .ref (ad 12 16)) E fr_X7_60 rfl rfl dX7_areCuts_5 ?_
  refine x_iconst (v := (iI 0)) E dX7_areCuts_8 (by decide) ?_
  refine x_iald E rfl rfl (by decide) dX7_areCuts_9 hm (fun x_2 hm => ?_)
  refine x_ldc (v := (iI (-100000))) E wG981 dX7_areCuts_10 ?_
  refine x_icmp_eq (tgt := 19) E dX7_areCuts_12 (by decide) hm (fun _ hm => ?_) (fun _ hm => ?_)
  · refine x_iconst (v := (iI 0)) E dX7_areCuts_19 (by decide) ?_
    exact x_zretS E rfl hm dX7_areCuts_20
  · refine x_iconst (v := (iI 1)) E dX7_areCuts_15 (by decide) ?_
    refine x_goto (tgt := 20) E dX7_areCuts_16 (by decide) ?_
    exact x_zretS E rfl hm dX7_areCuts_20
set_option maxRecDepth 100000 in
set_option maxHeartbeats 4000000 in
theorem c_X7_back (l : Launch) (D : va_G) (cs : vCs) (ad : Nat → Nat → Nat) {w : Wd} {r : Int32} {w' : Wd} (hm : X7_back w = some (r, w')) : Mc l yX7_back cX7_back 1 (some .int) 0 0 D cs ad [.ref (ad 12 0)] w (some (.int r)) w' := by
  refine Mc.of (by decide) (Nat.le_of_ble_eq_true rfl) ?_
  intro p e s m args below meth c E
  replace E : EV p m c cX7_back 1 s args RX7 yX7_back (some .int) meth D cs ad := E
  unfold X7_back at hm
  refine x_aload_n E dX7_back_0 rfl 0 rfl ?_
  refine x_gf (v := .int (rd w 12 0 8)) E fr_X7_133 rfl rfl dX7_back_1 ?_
  refine x_if_ne (tgt := 10) E dX7_back_4 (by decide) hm (fun _ hm => ?_) (fun _ hm => ?_)
  · refine x_aload_n E dX7_back_10 rfl 0 rfl ?_
    refine x_dup E dX7_back_11 rfl ?_
    refine x_gf (v := .int (rd w 12 0 8)) E fr_X7_133 rfl rfl dX7_back_12 ?_
    refine x_iconst (v := (iI 1)) E dX7_back_15 (by decide) ?_
    refine x_isub E dX7_back_16 ?_
    refine x_pf E fr_X7_133 rfl (by decide) rfl rfl dX7_back_17 ?_
    refine x_bW hm (fun w_1 hm => ?_)
    refine x_aload_n E dX7_back_20 rfl 0 rfl ?_
    refine x_gf (v := .int (rd w_1 12 0 8)) E fr_X7_133 rfl rfl dX7_back_21 ?_
    exact x_iretS E hm dX7_back_24
  · refine x_bipush (v := (iI (-103))) E dX7_back_7 (by decide) ?_
    exact x_iretS E hm dX7_back_9
set_option maxRecDepth 100000 in
set_option maxHeartbeats 4000000 in
theorem c_X7_blank (l : Launch) (D : va_G) (cs : vCs) (ad : Nat → Nat → Nat) {w : Wd} {r : Int32} {w' : Wd} (hm : X7_blank w = some (r, w')) : Mc l yX7_blank cX7_blank 2 (some .int) 0 0 D cs ad [.ref (ad 12 0)] w (some (.int r)) w' := by
  refine Mc.of (by decide) (Nat.le_of_ble_eq_true rfl) ?_
  intro p e s m args below meth c E
  replace E : EV p m c cX7_blank 2 s args RX7 yX7_blank (some .int) meth D cs ad := E
  unfold X7_blank at hm
  refine x_aload_n E dX7_blank_0 rfl 0 rfl ?_
  refine x_gf (v := .int (rd w 12 0 10)) E fr_X7_79 rfl rfl dX7_blank_1 ?_
  refine x_bI hm (fun x_1 hm => ?_)
  refine x_istore_n (lv' := [(1, .int x_1), (0, .ref (ad 12 0))]) E dX7_blank_4 rfl (by decide) rfl ?_
  refine x_aload_n E dX7_blank_5 rfl 1 rfl ?_
  refine x_iconst (v := (iI 0)) E dX7_blank_6 (by decide) ?_
  refine x_pf E fr_X7_79 rfl (by decide) rfl rfl dX7_blank_7 ?_
  refine x_bW hm (fun w_2 hm => ?_)
  refine x_iload_n E dX7_blank_10 rfl 0 rfl ?_
  exact x_iretS E hm dX7_blank_11
set_option maxRecDepth 100000 in
set_option maxHeartbeats 4000000 in
theorem c_X7_kindBy (l : Launch) (D : va_G) (cs : vCs) (ad : Nat → Nat → Nat) {w : Wd} {a0 : Int32} {r : Int32} (hm : X7_kindBy a0 = r) : Mc l yX7_kindBy cX7_kindBy 1 (some .int) 0 0 D cs ad [.int a0] w (some (.int r)) w := by
  refine Mc.of (by decide) (Nat.le_of_ble_eq_true rfl) ?_
  intro p e s m args below meth c E
  replace E : EV p m c cX7_kindBy 1 s args RX7 yX7_kindBy (some .int) meth D cs ad := E
  unfold X7_kindBy at hm
  refine x_iload_n E dX7_kindBy_0 rfl 0 rfl ?_
  refine x_split hm (fun hx hm => ?_) (fun hs0 hm => ?_)
  · refine x_lsw (off := 47) (tgt := 48) E dX7_kindBy_1 (by decide) (by rw [hx] <;> decide) (by decide) ?_
    refine x_iconst (v := (iI 2)) E dX7_kindBy_48 (by decide) ?_
    exact x_iretT E hm dX7_kindBy_49
  refine x_split hm (fun hx hm => ?_) (fun hs1 hm => ?_)
  · refine x_lsw (off := 43) (tgt := 44) E dX7_kindBy_1 (by decide) (by rw [hx] <;> decide) (by decide) ?_
    refine x_iconst (v := (iI 0)) E dX7_kindBy_44 (by decide) ?_
    exact x_iretT E hm dX7_kindBy_45
  refine x_split hm (fun hx hm => ?_) (fun hs2 hm => ?_)
  · refine x_lsw (off := 45) (tgt := 46) E dX7_kindBy_1 (by decide) (by rw [hx] <;> decide) (by decide) ?_
    refine x_iconst (v := (iI 1)) E dX7_kindBy_46 (by decide) ?_
    exact x_iretT E hm dX7_kindBy_47
  refine x_split hm (fun hx hm => ?_) (fun hs3 hm => ?_)
  · refine x_lsw (off := 49) (tgt := 50) E dX7_kindBy_1 (by decide) (by rw [hx] <;> decide) (by decide) ?_
    refine x_iconst (v := (iI 3)) E dX7_kindBy_50 (by decide) ?_
    exact x_iretT E hm dX7_kindBy_51
  refine x_lsw (off := 51) (tgt := 52) E dX7_kindBy_1 (by decide) ((lv_osw hs0 rfl).trans ((lv_osw hs1 rfl).trans ((lv_osw hs2 rfl).trans ((lv_osw hs3 rfl).trans rfl)))) (by decide) ?_
  refine x_iconst (v := (iI (-1))) E dX7_kindBy_52 (by decide) ?_
  exact x_iretT E hm dX7_kindBy_53
set_option maxRecDepth 100000 in
set_option maxHeartbeats 4000000 in
theorem c_X7_digitsOf (l : Launch) (D : va_G) (cs : vCs) (ad : Nat → Nat → Nat) {w : Wd} {a0 : Int32} {r : Int32} (hm : X7_digitsOf a0 = r) : Mc l yX7_digitsOf cX7_digitsOf 1 (some .int) 0 0 D cs ad [.int a0] w (some (.int r)) w := by
  refine Mc.of (by decide) (Nat.le_of_ble_eq_true rfl) ?_
  intro p e s m args below meth c E
  replace E : EV p m c cX7_digitsOf 1 s args RX7 yX7_digitsOf (some .int) meth D cs ad := E
  unfold X7_digitsOf at hm
  refine x_iload_n E dX7_digitsOf_0 rfl 0 rfl ?_
  refine x_iconst (v := (iI 1)) E dX7_digitsOf_1 (by decide) ?_
  refine x_icmp_eq (tgt := 10) E dX7_digitsOf_2 (by decide) hm (fun _ hm => ?_) (fun _ hm => ?_)
  · refine x_iconst (v := (iI 1)) E dX7_digitsOf_10 (by decide) ?_
    refine x_goto (tgt := 15) E dX7_digitsOf_11 (by decide) ?_
    exact x_iretT E hm dX7_digitsOf_15
  · refine x_iload_n E dX7_digitsOf_5 rfl 0 rfl ?_
    refine x_iconst (v := (iI 3)) E dX7_digitsOf_6 (by decide) ?_
    refine x_icmp_ne (tgt := 14) E dX7_digitsOf_7 (by decide) hm (fun _ hm => ?_) (fun _ hm => ?_)
    · refine x_iconst (v := (iI 0)) E dX7_digitsOf_14 (by decide) ?_
      exact x_iretT E hm dX7_digitsOf_15
    · refine x_iconst (v := (iI 1)) E dX7_digitsOf_10 (by decide) ?_
      refine x_goto (tgt := 15) E dX7_digitsOf_11 (by decide) ?_
      exact x_iretT E hm dX7_digitsOf_15
set_option maxRecDepth 100000 in
set_option maxHeartbeats 4000000 in
theorem c_X7_marksOf (l : Launch) (D : va_G) (cs : vCs) (ad : Nat → Nat → Nat) {w : Wd} {a0 : Int32} {r : Int32} (hm : X7_marksOf a0 = r) : Mc l yX7_marksOf cX7_marksOf 1 (some .int) 0 0 D cs ad [.int a0] w (some (.int r)) w := by
  refine Mc.of (by decide) (Nat.le_of_ble_eq_true rfl) ?_
  intro p e s m args below meth c E
  replace E : EV p m c cX7_marksOf 1 s args RX7 yX7_marksOf (some .int) meth D cs ad := E
  unfold X7_marksOf at hm
  refine x_iload_n E dX7_marksOf_0 rfl 0 rfl ?_
  refine x_iconst (v := (iI 3)) E dX7_marksOf_1 (by decide) ?_
  refine x_icmp_ne (tgt := 10) E dX7_marksOf_2 (by decide) hm (fun _ hm => ?_) (fun _ hm => ?_)
  · refine x_bipush (v := (iI 8)) E dX7_marksOf_10 (by decide) ?_
    exact x_iretT E hm dX7_marksOf_12
  · refine x_bipush (v := (iI 16)) E dX7_marksOf_5 (by decide) ?_
    refine x_goto (tgt := 12) E dX7_marksOf_7 (by decide) ?_
    exact x_iretT E hm dX7_marksOf_12
set_option maxRecDepth 100000 in
set_option maxHeartbeats 4000000 in
theorem c_X7_markBy (l : Launch) (D : va_G) (cs : vCs) (ad : Nat → Nat → Nat) {w : Wd} {a0 : Int32} {a1 : Int32} {r : Int32} (hm : X7_markBy a0 a1 = r) : Mc l yX7_markBy cX7_markBy 2 (some .int) 0 0 D cs ad [.int a0, .int a1] w (some (.int r)) w := by
  refine Mc.of (by decide) (Nat.le_of_ble_eq_true rfl) ?_
  intro p e s m args below meth c E
  replace E : EV p m c cX7_markBy 2 s args RX7 yX7_markBy (some .int) meth D cs ad := E
  unfold X7_markBy at hm
  refine x_iload_n E dX7_markBy_0 rfl 1 rfl ?_
  refine x_split hm (fun hx hm => ?_) (fun hs0 hm => ?_)
  · refine x_lsw (off := 79) (tgt := 80) E dX7_markBy_1 (by decide) (by rw [hx] <;> decide) (by decide) ?_
    refine x_iconst (v := (iI 2)) E dX7_markBy_80 (by decide) ?_
    exact x_iretT E hm dX7_markBy_81
  refine x_split hm (fun hx hm => ?_) (fun hs1 hm => ?_)
  · refine x_lsw (off := 97) (tgt := 98) E dX7_markBy_1 (by decide) (by rw [hx] <;> decide) (by decide) ?_
    refine x_iload_n E dX7_markBy_98 rfl 0 rfl ?_
    refine x_iconst (v := (iI 2)) E dX7_markBy_99 (by decide) ?_
    refine x_icmp_ne (tgt := 108) E dX7_markBy_100 (by decide) hm (fun _ hm => ?_) (fun _ hm => ?_)
    · refine x_iconst (v := (iI (-1))) E dX7_markBy_108 (by decide) ?_
      exact x_iretT E hm dX7_markBy_109
    · refine x_bipush (v := (iI 7)) E dX7_markBy_103 (by decide) ?_
      refine x_goto (tgt := 109) E dX7_markBy_105 (by decide) ?_
      exact x_iretT E hm dX7_markBy_109
  refine x_split hm (fun hx hm => ?_) (fun hs2 hm => ?_)
  · refine x_lsw (off := 75) (tgt := 76) E dX7_markBy_1 (by decide) (by rw [hx] <;> decide) (by decide) ?_
    refine x_iconst (v := (iI 0)) E dX7_markBy_76 (by decide) ?_
    exact x_iretT E hm dX7_markBy_77
  refine x_split hm (fun hx hm => ?_) (fun hs3 hm => ?_)
  · refine x_lsw (off := 77) (tgt := 78) E dX7_markBy_1 (by decide) (by rw [hx] <;> decide) (by decide) ?_
    refine x_iconst (v := (iI 1)) E dX7_markBy_78 (by decide) ?_
    exact x_iretT E hm dX7_markBy_79
  refine x_split hm (fun hx hm => ?_) (fun hs4 hm => ?_)
  · refine x_lsw (off := 81) (tgt := 82) E dX7_markBy_1 (by decide) (by rw [hx] <;> decide) (by decide) ?_
    refine x_iload_n E dX7_markBy_82 rfl 0 rfl ?_
    refine x_iconst (v := (iI 2)) E dX7_markBy_83 (by decide) ?_
    refine x_icmp_ne (tgt := 96) E dX7_markBy_84 (by decide) hm (fun _ hm => ?_) (fun _ hm => ?_)
    · refine x_iconst (v := (iI (-1))) E dX7_markBy_96 (by decide) ?_
      exact x_iretT E hm dX7_markBy_97
    · refine x_iconst (v := (iI 3)) E dX7_markBy_87 (by decide) ?_
      refine x_iload_n E dX7_markBy_88 rfl 1 rfl ?_
      refine x_iadd E dX7_markBy_89 ?_
      refine x_bipush (v := (iI 99)) E dX7_markBy_90 (by decide) ?_
      refine x_isub E dX7_markBy_92 ?_
      refine x_goto (tgt := 97) E dX7_markBy_93 (by decide) ?_
      exact x_iretT E hm dX7_markBy_97
  refine x_split hm (fun hx hm => ?_) (fun hs5 hm => ?_)
  · refine x_lsw (off := 81) (tgt := 82) E dX7_markBy_1 (by decide) (by rw [hx] <;> decide) (by decide) ?_
    refine x_iload_n E dX7_markBy_82 rfl 0 rfl ?_
    refine x_iconst (v := (iI 2)) E dX7_markBy_83 (by decide) ?_
    refine x_icmp_ne (tgt := 96) E dX7_markBy_84 (by decide) hm (fun _ hm => ?_) (fun _ hm => ?_)
    · refine x_iconst (v := (iI (-1))) E dX7_markBy_96 (by decide) ?_
      exact x_iretT E hm dX7_markBy_97
    · refine x_iconst (v := (iI 3)) E dX7_markBy_87 (by decide) ?_
      refine x_iload_n E dX7_markBy_88 rfl 1 rfl ?_
      refine x_iadd E dX7_markBy_89 ?_
      refine x_bipush (v := (iI 99)) E dX7_markBy_90 (by decide) ?_
      refine x_isub E dX7_markBy_92 ?_
      refine x_goto (tgt := 97) E dX7_markBy_93 (by decide) ?_
      exact x_iretT E hm dX7_markBy_97
  refine x_split hm (fun hx hm => ?_) (fun hs6 hm => ?_)
  · refine x_lsw (off := 81) (tgt := 82) E dX7_markBy_1 (by decide) (by rw [hx] <;> decide) (by decide) ?_
    refine x_iload_n E dX7_markBy_82 rfl 0 rfl ?_
    refine x_iconst (v := (iI 2)) E dX7_markBy_83 (by decide) ?_
    refine x_icmp_ne (tgt := 96) E dX7_markBy_84 (by decide) hm (fun _ hm => ?_) (fun _ hm => ?_)
    · refine x_iconst (v := (iI (-1))) E dX7_markBy_96 (by decide) ?_
      exact x_iretT E hm dX7_markBy_97
    · refine x_iconst (v := (iI 3)) E dX7_markBy_87 (by decide) ?_
      refine x_iload_n E dX7_markBy_88 rfl 1 rfl ?_
      refine x_iadd E dX7_markBy_89 ?_
      refine x_bipush (v := (iI 99)) E dX7_markBy_90 (by decide) ?_
      refine x_isub E dX7_markBy_92 ?_
      refine x_goto (tgt := 97) E dX7_markBy_93 (by decide) ?_
      exact x_iretT E hm dX7_markBy_97
  refine x_split hm (fun hx hm => ?_) (fun hs7 hm => ?_)
  · refine x_lsw (off := 81) (tgt := 82) E dX7_markBy_1 (by decide) (by rw [hx] <;> decide) (by decide) ?_
    refine x_iload_n E dX7_markBy_82 rfl 0 rfl ?_
    refine x_iconst (v := (iI 2)) E dX7_markBy_83 (by decide) ?_
    refine x_icmp_ne (tgt := 96) E dX7_markBy_84 (by decide) hm (fun _ hm => ?_) (fun _ hm => ?_)
    · refine x_iconst (v := (iI (-1))) E dX7_markBy_96 (by decide) ?_
      exact x_iretT E hm dX7_markBy_97
    · refine x_iconst (v := (iI 3)) E dX7_markBy_87 (by decide) ?_
      refine x_iload_n E dX7_markBy_88 rfl 1 rfl ?_
      refine x_iadd E dX7_markBy_89 ?_
      refine x_bipush (v := (iI 99)) E dX7_markBy_90 (by decide) ?_
      refine x_isub E dX7_markBy_92 ?_
      refine x_goto (tgt := 97) E dX7_markBy_93 (by decide) ?_
      exact x_iretT E hm dX7_markBy_97
  refine x_lsw (off := 109) (tgt := 110) E dX7_markBy_1 (by decide) ((lv_osw hs0 rfl).trans ((lv_osw hs1 rfl).trans ((lv_osw hs2 rfl).trans ((lv_osw hs3 rfl).trans ((lv_osw hs4 rfl).trans ((lv_osw hs5 rfl).trans ((lv_osw hs6 rfl).trans ((lv_osw hs7 rfl).trans rfl)))))))) (by decide) ?_
  refine x_iconst (v := (iI (-1))) E dX7_markBy_110 (by decide) ?_
  exact x_iretT E hm dX7_markBy_111
set_option maxRecDepth 100000 in
set_option maxHeartbeats 4000000 in
theorem c_X7_fitsAt (l : Launch) (D : va_G) (cs : vCs) (ad : Nat → Nat → Nat) {w : Wd} {a1 : Int32} {a2 : Int32} {r : Int32} {w' : Wd} (hm : X7_fitsAt w a1 a2 = some (r, w')) : Mc l yX7_fitsAt cX7_fitsAt 4 (some .boolean) 1 22 D cs ad [.ref (ad 12 0), .int a1, .int a2] w (some (.int r)) w' := by
  refine Mc.of (by decide) (Nat.le_of_ble_eq_true rfl) ?_
  intro p e s m args below meth c E
  replace E : EV p m c cX7_fitsAt 4 s args RX7 yX7_fitsAt (some .boolean) meth D cs ad := E
  unfold X7_fitsAt at hm
  refine x_iload_n E dX7_fitsAt_0 rfl 1 rfl ?_
  refine x_if_ne (tgt := 26) E dX7_fitsAt_1 (by decide) hm (fun _ hm => ?_) (fun _ hm => ?_)
  · refine x_iload_n E dX7_fitsAt_26 rfl 1 rfl ?_
    refine x_iconst (v := (iI 1)) E dX7_fitsAt_27 (by decide) ?_
    refine x_isub E dX7_fitsAt_28 ?_
    refine x_aload_n E dX7_fitsAt_29 rfl 0 rfl ?_
    refine x_gf (v := .int (rd w 12 0 12)) E fr_X7_92 rfl rfl dX7_fitsAt_30 ?_
    refine x_callS (As := [.int (rd w 12 0 12)]) (rest := [.int (a1 - (iI 1))]) E my_X7_digitsOf wG836 (c_X7_digitsOf l D cs ad rfl) rfl ⟨Nat.le_of_ble_eq_true rfl, Nat.le_of_ble_eq_true rfl⟩ (Nat.le_of_ble_eq_true rfl) dX7_fitsAt_33 ?_
    refine x_isub E dX7_fitsAt_36 ?_
    refine x_bI hm (fun x_1 hm => ?_)
    refine x_istore_n (lv' := [(3, .int x_1), (0, .ref (ad 12 0)), (1, .int a1), (2, .int a2)]) E dX7_fitsAt_37 rfl (by decide) rfl ?_
    refine x_iload_n E dX7_fitsAt_38 rfl 0 rfl ?_
    refine x_if_ge (tgt := 64) E dX7_fitsAt_39 (by decide) hm (fun _ hm => ?_) (fun _ hm => ?_)
    · refine x_iload_n E dX7_fitsAt_64 rfl 0 rfl ?_
      refine x_aload_n E dX7_fitsAt_65 rfl 1 rfl ?_
      refine x_gf (v := .int (rd w 12 0 12)) E fr_X7_92 rfl rfl dX7_fitsAt_66 ?_
      refine x_callS (As := [.int (rd w 12 0 12)]) (rest := [.int x_1]) E my_X7_marksOf wG839 (c_X7_marksOf l D cs ad rfl) rfl ⟨Nat.le_of_ble_eq_true rfl, Nat.le_of_ble_eq_true rfl⟩ (Nat.le_of_ble_eq_true rfl) dX7_fitsAt_69 ?_
      refine x_icmp_ge (tgt := 93) E dX7_fitsAt_72 (by decide) hm (fun _ hm => ?_) (fun _ hm => ?_)
      · refine x_iload_n E dX7_fitsAt_93 rfl 0 rfl ?_
        refine x_aload_n E dX7_fitsAt_94 rfl 1 rfl ?_
        refine x_gf (v := .int (rd w 12 0 12)) E fr_X7_92 rfl rfl dX7_fitsAt_95 ?_
        refine x_callS (As := [.int (rd w 12 0 12)]) (rest := [.int x_1]) E my_X7_marksOf wG839 (c_X7_marksOf l D cs ad rfl) rfl ⟨Nat.le_of_ble_eq_true rfl, Nat.le_of_ble_eq_true rfl⟩ (Nat.le_of_ble_eq_true rfl) dX7_fitsAt_98 ?_
        refine x_iconst (v := (iI 4)) E dX7_fitsAt_101 (by decide) ?_
        refine x_iadd E dX7_fitsAt_102 ?_
        refine x_icmp_ge (tgt := 121) E dX7_fitsAt_103 (by decide) hm (fun _ hm => ?_) (fun _ hm => ?_)
        · refine x_iconst (v := (iI 0)) E dX7_fitsAt_121 (by decide) ?_
          exact x_zretS E rfl hm dX7_fitsAt_122
        · refine x_iload_n E dX7_fitsAt_106 rfl 3 rfl ?_
          refine x_bipush (v := (iI 48)) E dX7_fitsAt_107 (by decide) ?_
          refine x_bipush (v := (iI 57)) E dX7_fitsAt_109 (by decide) ?_
          refine x_callS (As := [.int a2, .int (iI 48), .int (iI 57)]) (rest := []) E my_X7_within wG814 (c_X7_within l D cs ad rfl) rfl ⟨Nat.le_of_ble_eq_true rfl, Nat.le_of_ble_eq_true rfl⟩ (Nat.le_of_ble_eq_true rfl) dX7_fitsAt_111 ?_
          refine x_if_eq (tgt := 121) E dX7_fitsAt_114 (by decide) hm (fun _ hm => ?_) (fun _ hm => ?_)
          · refine x_iconst (v := (iI 0)) E dX7_fitsAt_121 (by decide) ?_
            exact x_zretS E rfl hm dX7_fitsAt_122
          · refine x_iconst (v := (iI 1)) E dX7_fitsAt_117 (by decide) ?_
            refine x_goto (tgt := 122) E dX7_fitsAt_118 (by decide) ?_
            exact x_zretS E rfl hm dX7_fitsAt_122
      · refine x_aload_n E dX7_fitsAt_75 rfl 1 rfl ?_
        refine x_gf (v := .int (rd w 12 0 12)) E fr_X7_92 rfl rfl dX7_fitsAt_76 ?_
        refine x_iload_n E dX7_fitsAt_79 rfl 3 rfl ?_
        refine x_callS (As := [.int (rd w 12 0 12), .int a2]) (rest := []) E my_X7_markBy wG842 (c_X7_markBy l D cs ad rfl) rfl ⟨Nat.le_of_ble_eq_true rfl, Nat.le_of_ble_eq_true rfl⟩ (Nat.le_of_ble_eq_true rfl) dX7_fitsAt_80 ?_
        refine x_iconst (v := (iI (-1))) E dX7_fitsAt_83 (by decide) ?_
        refine x_icmp_eq (tgt := 91) E dX7_fitsAt_84 (by decide) hm (fun _ hm => ?_) (fun _ hm => ?_)
        · refine x_iconst (v := (iI 0)) E dX7_fitsAt_91 (by decide) ?_
          exact x_zretS E rfl hm dX7_fitsAt_92
        · refine x_iconst (v := (iI 1)) E dX7_fitsAt_87 (by decide) ?_
          refine x_goto (tgt := 92) E dX7_fitsAt_88 (by decide) ?_
          exact x_zretS E rfl hm dX7_fitsAt_92
    · refine x_iload_n E dX7_fitsAt_42 rfl 3 rfl ?_
      refine x_aload_n E dX7_fitsAt_43 rfl 1 rfl ?_
      refine x_gf (v := .int (rd w 12 0 12)) E fr_X7_92 rfl rfl dX7_fitsAt_44 ?_
      refine x_iconst (v := (iI 1)) E dX7_fitsAt_47 (by decide) ?_
      refine x_icmp_ne (tgt := 56) E dX7_fitsAt_48 (by decide) hm (fun _ hm => ?_) (fun _ hm => ?_)
      · refine x_bipush (v := (iI 48)) E dX7_fitsAt_56 (by decide) ?_
        refine x_bipush (v := (iI 55)) E dX7_fitsAt_58 (by decide) ?_
        refine x_callS (As := [.int a2, .int (iI 48), .int (iI 55)]) (rest := []) E my_X7_within wG814 (c_X7_within l D cs ad rfl) rfl ⟨Nat.le_of_ble_eq_true rfl, Nat.le_of_ble_eq_true rfl⟩ (Nat.le_of_ble_eq_true rfl) dX7_fitsAt_60 ?_
        exact x_zretS E (isB_nar (b_X7_within _ _ _)) hm dX7_fitsAt_63
      · refine x_bipush (v := (iI 49)) E dX7_fitsAt_51 (by decide) ?_
        refine x_goto (tgt := 58) E dX7_fitsAt_53 (by decide) ?_
        refine x_bipush (v := (iI 55)) E dX7_fitsAt_58 (by decide) ?_
        refine x_callS (As := [.int a2, .int (iI 49), .int (iI 55)]) (rest := []) E my_X7_within wG814 (c_X7_within l D cs ad rfl) rfl ⟨Nat.le_of_ble_eq_true rfl, Nat.le_of_ble_eq_true rfl⟩ (Nat.le_of_ble_eq_true rfl) dX7_fitsAt_60 ?_
        exact x_zretS E (isB_nar (b_X7_within _ _ _)) hm dX7_fitsAt_63
  · refine x_aload_n E dX7_fitsAt_4 rfl 0 rfl ?_
    refine x_iload_n E dX7_fitsAt_5 rfl 2 rfl ?_
    refine x_callS (As := [.int a2]) (rest := [.ref (ad 12 0)]) E my_X7_kindBy wG833 (c_X7_kindBy l D cs ad rfl) rfl ⟨Nat.le_of_ble_eq_true rfl, Nat.le_of_ble_eq_true rfl⟩ (Nat.le_of_ble_eq_true rfl) dX7_fitsAt_6 ?_
    refine x_pf E fr_X7_92 rfl (by decide) rfl rfl dX7_fitsAt_9 ?_
    refine x_bW hm (fun w_2 hm => ?_)
    refine x_aload_n E dX7_fitsAt_12 rfl 0 rfl ?_
    refine x_gf (v := .int (rd w_2 12 0 12)) E fr_X7_92 rfl rfl dX7_fitsAt_13 ?_
    refine x_iconst (v := (iI (-1))) E dX7_fitsAt_16 (by decide) ?_
    refine x_icmp_eq (tgt := 24) E dX7_fitsAt_17 (by decide) hm (fun _ hm => ?_) (fun _ hm => ?_)
    · refine x_iconst (v := (iI 0)) E dX7_fitsAt_24 (by decide) ?_
      exact x_zretS E rfl hm dX7_fitsAt_25
    · refine x_iconst (v := (iI 1)) E dX7_fitsAt_20 (by decide) ?_
      refine x_goto (tgt := 25) E dX7_fitsAt_21 (by decide) ?_
      exact x_zretS E rfl hm dX7_fitsAt_25
set_option maxRecDepth 100000 in
set_option maxHeartbeats 4000000 in
theorem c_X7_read (l : Launch) (D : va_G) (cs : vCs) (ad : Nat → Nat → Nat) {w : Wd} {r : Int32} {w' : Wd} (hm : X7_read w = some (r, w')) : Mc l yX7_read cX7_read 2 (some .int) 2 45 D cs ad [.ref (ad 12 0)] w (some (.int r)) w' := by
  refine Mc.of (by decide) (Nat.le_of_ble_eq_true rfl) ?_
  intro p e s m args below meth c E
  replace E : EV p m c cX7_read 2 s args RX7 yX7_read (some .int) meth D cs ad := E
  have hL2 : ∀ (fuel : Nat) (b1 : Int32) (w : Wd), X7_read_L2 fuel b1 w = some (r, w') → XV p l e { frames := 2, cells := 0, slots := 0, locals := 45 } s m args below meth c 2 D cs ad (MQ below (xQ D cs ad (some (.int r)) w') args s 0 0 (xF ad)) 2 [(0, .ref (ad 12 0)), (1, .int b1)] [] w := by
    intro fuel
    induction fuel with
    | zero => intro b1 w hm; cases hm
    | succ fuel ih =>
      intro b1 w hm
      rw [X7_read_L2] at hm
      refine x_iload_n E dX7_read_2 rfl 1 rfl ?_
      refine x_aload_n E dX7_read_3 rfl 0 rfl ?_
      refine x_gf (v := .int (rd w 12 0 10)) E fr_X7_79 rfl rfl dX7_read_4 ?_
      refine x_icmp_ge (tgt := 30) E dX7_read_7 (by decide) hm (fun _ hm => ?_) (fun _ hm => ?_)
      · refine x_iload_n E dX7_read_30 rfl 1 rfl ?_
        exact x_iretS E hm dX7_read_31
      · refine x_aload_n E dX7_read_10 rfl 0 rfl ?_
        refine x_iload_n E dX7_read_11 rfl 1 rfl ?_
        refine x_aload_n E dX7_read_12 rfl 0 rfl ?_
        refine x_gf (v := .ref (ad 12 6)) E fr_X7_29 rfl rfl dX7_read_13 ?_
        refine x_iload_n E dX7_read_16 rfl 1 rfl ?_
        refine x_iald E rfl rfl (by decide) dX7_read_17 hm (fun x_1 hm => ?_)
        obtain ⟨r_2, w_3, hc, hm⟩ := bI_inv hm
        refine x_callV (As := [.int b1, .int x_1]) (rest := []) E my_X7_fitsAt wG829 (c_X7_fitsAt l D cs ad hc) rfl rfl rfl ⟨Nat.le_of_ble_eq_true rfl, Nat.le_of_ble_eq_true rfl⟩ (Nat.le_of_ble_eq_true rfl) dX7_read_18 ?_
        refine x_if_eq (tgt := 30) E dX7_read_21 (by decide) hm (fun _ hm => ?_) (fun _ hm => ?_)
        · refine x_iload_n E dX7_read_30 rfl 1 rfl ?_
          exact x_iretS E hm dX7_read_31
        · refine x_iincB (lv' := fun x_4 => [(1, .int x_4), (0, .ref (ad 12 0))]) (j := 1) E dX7_read_24 rfl rfl (by decide) (fun _ => rfl) hm (fun x_4 hm => ?_)
          refine x_goto (tgt := 2) E dX7_read_27 (by decide) ?_
          exact x_weak [1, 0] rfl ((ih) x_4 w_3 hm)
  unfold X7_read at hm
  refine x_iconst (v := (iI 0)) E dX7_read_0 (by decide) ?_
  refine x_istore_n (lv' := [(1, .int (iI 0)), (0, .ref (ad 12 0))]) E dX7_read_1 rfl (by decide) rfl ?_
  exact x_weak [1, 0] rfl ((hL2 1000) (iI 0) w hm)
set_option maxRecDepth 100000 in
set_option maxHeartbeats 4000000 in
theorem c_X7_lettersOf (l : Launch) (D : va_G) (cs : vCs) (ad : Nat → Nat → Nat) {w : Wd} {a0 : Int32} {r : Int32} (hm : X7_lettersOf a0 = r) : Mc l yX7_lettersOf cX7_lettersOf 1 (some .int) 1 20 D cs ad [.int a0] w (some (.int r)) w := by
  refine Mc.of (by decide) (Nat.le_of_ble_eq_true rfl) ?_
  intro p e s m args below meth c E
  replace E : EV p m c cX7_lettersOf 1 s args RX7 yX7_lettersOf (some .int) meth D cs ad := E
  unfold X7_lettersOf at hm
  refine x_iconst (v := (iI 1)) E dX7_lettersOf_0 (by decide) ?_
  refine x_iload_n E dX7_lettersOf_1 rfl 0 rfl ?_
  refine x_callS (As := [.int a0]) (rest := [.int (iI 1)]) E my_X7_digitsOf wG836 (c_X7_digitsOf l D cs ad rfl) rfl ⟨Nat.le_of_ble_eq_true rfl, Nat.le_of_ble_eq_true rfl⟩ (Nat.le_of_ble_eq_true rfl) dX7_lettersOf_2 ?_
  refine x_iadd E dX7_lettersOf_5 ?_
  refine x_iload_n E dX7_lettersOf_6 rfl 0 rfl ?_
  refine x_callS (As := [.int a0]) (rest := [.int ((iI 1) + (X7_digitsOf a0))]) E my_X7_marksOf wG839 (c_X7_marksOf l D cs ad rfl) rfl ⟨Nat.le_of_ble_eq_true rfl, Nat.le_of_ble_eq_true rfl⟩ (Nat.le_of_ble_eq_true rfl) dX7_lettersOf_7 ?_
  refine x_iadd E dX7_lettersOf_10 ?_
  refine x_iconst (v := (iI 4)) E dX7_lettersOf_11 (by decide) ?_
  refine x_iadd E dX7_lettersOf_12 ?_
  exact x_iretT E hm dX7_lettersOf_13
set_option maxRecDepth 100000 in
set_option maxHeartbeats 4000000 in
theorem c_X7_layCode (l : Launch) (D : va_G) (cs : vCs) (ad : Nat → Nat → Nat) {w : Wd} {a1 : Int32} {w' : Wd} (hm : X7_layCode w a1 = some w') : Mc l yX7_layCode cX7_layCode 4 none 1 21 D cs ad [.ref (ad 12 0), .int a1] w none w' := by
  refine Mc.of (by decide) (Nat.le_of_ble_eq_true rfl) ?_
  intro p e s m args below meth c E
  replace E : EV p m c cX7_layCode 4 s args RX7 yX7_layCode none meth D cs ad := E
  have hL46 : ∀ (fuel : Nat) (k99 : Int32 → Int32 → Wd → Option Wd) (hk99 : ∀ (b1 : Int32) (b2 : Int32) (w : Wd), k99 b1 b2 w = some w' → XV p l e { frames := 1, cells := 0, slots := 0, locals := 21 } s m args below meth c 4 D cs ad (MQ below (xQ D cs ad none w') args s 0 0 (xF ad)) 99 [(0, .ref (ad 12 0)), (1, .int b1), (2, .int b2)] [] w) (b1 : Int32) (b2 : Int32) (b3 : Int32) (w : Wd), X7_layCode_L46 fuel k99 b1 b2 b3 w = some w' → XV p l e { frames := 1, cells := 0, slots := 0, locals := 21 } s m args below meth c 4 D cs ad (MQ below (xQ D cs ad none w') args s 0 0 (xF ad)) 46 [(0, .ref (ad 12 0)), (1, .int b1), (2, .int b2), (3, .int b3)] [] w := by
    intro fuel
    induction fuel with
    | zero => intro k99 hk99 b1 b2 b3 w hm; cases hm
    | succ fuel ih =>
      intro k99 hk99 b1 b2 b3 w hm
      rw [X7_layCode_L46] at hm
      refine x_iload_n E dX7_layCode_46 rfl 3 rfl ?_
      refine x_bipush (v := (iI 16)) E dX7_layCode_47 (by decide) ?_
      refine x_icmp_ge (tgt := 99) E dX7_layCode_49 (by decide) hm (fun _ hm => ?_) (fun _ hm => ?_)
      · exact x_weak [0, 1, 2] rfl (hk99 b1 b2 w hm)
      · refine x_aload_n E dX7_layCode_52 rfl 0 rfl ?_
        refine x_gf (v := .ref (ad 12 3)) E fr_X7_16 rfl rfl dX7_layCode_53 ?_
        refine x_bipush (v := (iI 16)) E dX7_layCode_56 (by decide) ?_
        refine x_iload_n E dX7_layCode_58 rfl 1 rfl ?_
        refine x_imul E dX7_layCode_59 ?_
        refine x_iload_n E dX7_layCode_60 rfl 3 rfl ?_
        refine x_iadd E dX7_layCode_61 ?_
        refine x_iload_n E dX7_layCode_62 rfl 3 rfl ?_
        refine x_aload_n E dX7_layCode_63 rfl 0 rfl ?_
        refine x_gf (v := .int (rd w 12 0 12)) E fr_X7_92 rfl rfl dX7_layCode_64 ?_
        refine x_callS (As := [.int (rd w 12 0 12)]) (rest := [.int b3, .int (((iI 16) * b1) + b3), .ref (ad 12 3)]) E my_X7_marksOf wG839 (c_X7_marksOf l D cs ad rfl) rfl ⟨Nat.le_of_ble_eq_true rfl, Nat.le_of_ble_eq_true rfl⟩ (Nat.le_of_ble_eq_true rfl) dX7_layCode_67 ?_
        refine x_icmp_ge (tgt := 91) E dX7_layCode_70 (by decide) hm (fun _ hm => ?_) (fun _ hm => ?_)
        · refine x_iconst (v := (iI 0)) E dX7_layCode_91 (by decide) ?_
          refine x_iast E rfl rfl (by decide) dX7_layCode_92 hm (fun w_6 hm => ?_)
          refine x_iincB (lv' := fun x_7 => [(3, .int x_7), (0, .ref (ad 12 0)), (1, .int b1), (2, .int b2)]) (j := 3) E dX7_layCode_93 rfl rfl (by decide) (fun _ => rfl) hm (fun x_7 hm => ?_)
          refine x_goto (tgt := 46) E dX7_layCode_96 (by decide) ?_
          exact x_weak [1, 2, 3, 0] rfl ((ih _ hk99) b1 b2 x_7 w_6 hm)
        · refine x_aload_n E dX7_layCode_73 rfl 0 rfl ?_
          refine x_gf (v := .int (rd w 12 0 12)) E fr_X7_92 rfl rfl dX7_layCode_74 ?_
          refine x_aload_n E dX7_layCode_77 rfl 0 rfl ?_
          refine x_gf (v := .ref (ad 12 6)) E fr_X7_29 rfl rfl dX7_layCode_78 ?_
          refine x_iload_n E dX7_layCode_81 rfl 2 rfl ?_
          refine x_iload_n E dX7_layCode_82 rfl 3 rfl ?_
          refine x_iadd E dX7_layCode_83 ?_
          refine x_iald E rfl rfl (by decide) dX7_layCode_84 hm (fun x_8 hm => ?_)
          refine x_callS (As := [.int (rd w 12 0 12), .int x_8]) (rest := [.int (((iI 16) * b1) + b3), .ref (ad 12 3)]) E my_X7_markBy wG842 (c_X7_markBy l D cs ad rfl) rfl ⟨Nat.le_of_ble_eq_true rfl, Nat.le_of_ble_eq_true rfl⟩ (Nat.le_of_ble_eq_true rfl) dX7_layCode_85 ?_
          refine x_goto (tgt := 92) E dX7_layCode_88 (by decide) ?_
          refine x_iast E rfl rfl (by decide) dX7_layCode_92 hm (fun w_9 hm => ?_)
          refine x_iincB (lv' := fun x_10 => [(3, .int x_10), (0, .ref (ad 12 0)), (1, .int b1), (2, .int b2)]) (j := 3) E dX7_layCode_93 rfl rfl (by decide) (fun _ => rfl) hm (fun x_10 hm => ?_)
          refine x_goto (tgt := 46) E dX7_layCode_96 (by decide) ?_
          exact x_weak [1, 2, 3, 0] rfl ((ih _ hk99) b1 b2 x_10 w_9 hm)
  have hL101 : ∀ (fuel : Nat) (b1 : Int32) (b2 : Int32) (b3 : Int32) (w : Wd), X7_layCode_L101 fuel b1 b2 b3 w = some w' → XV p l e { frames := 1, cells := 0, slots := 0, locals := 21 } s m args below meth c 4 D cs ad (MQ below (xQ D cs ad none w') args s 0 0 (xF ad)) 101 [(0, .ref (ad 12 0)), (1, .int b1), (2, .int b2), (3, .int b3)] [] w := by
    intro fuel
    induction fuel with
    | zero => intro b1 b2 b3 w hm; cases hm
    | succ fuel ih =>
      intro b1 b2 b3 w hm
      rw [X7_layCode_L101] at hm
      refine x_iload_n E dX7_layCode_101 rfl 3 rfl ?_
      refine x_iconst (v := (iI 4)) E dX7_layCode_102 (by decide) ?_
      refine x_icmp_ge (tgt := 141) E dX7_layCode_103 (by decide) hm (fun _ hm => ?_) (fun _ hm => ?_)
      · exact x_vretS E hm dX7_layCode_141
      · refine x_aload_n E dX7_layCode_106 rfl 0 rfl ?_
        refine x_gf (v := .ref (ad 12 4)) E fr_X7_19 rfl rfl dX7_layCode_107 ?_
        refine x_iconst (v := (iI 4)) E dX7_layCode_110 (by decide) ?_
        refine x_iload_n E dX7_layCode_111 rfl 1 rfl ?_
        refine x_imul E dX7_layCode_112 ?_
        refine x_iload_n E dX7_layCode_113 rfl 3 rfl ?_
        refine x_iadd E dX7_layCode_114 ?_
        refine x_aload_n E dX7_layCode_115 rfl 0 rfl ?_
        refine x_gf (v := .ref (ad 12 6)) E fr_X7_29 rfl rfl dX7_layCode_116 ?_
        refine x_iload_n E dX7_layCode_119 rfl 2 rfl ?_
        refine x_aload_n E dX7_layCode_120 rfl 0 rfl ?_
        refine x_gf (v := .int (rd w 12 0 12)) E fr_X7_92 rfl rfl dX7_layCode_121 ?_
        refine x_callS (As := [.int (rd w 12 0 12)]) (rest := [.int b2, .ref (ad 12 6), .int (((iI 4) * b1) + b3), .ref (ad 12 4)]) E my_X7_marksOf wG839 (c_X7_marksOf l D cs ad rfl) rfl ⟨Nat.le_of_ble_eq_true rfl, Nat.le_of_ble_eq_true rfl⟩ (Nat.le_of_ble_eq_true rfl) dX7_layCode_124 ?_
        refine x_iadd E dX7_layCode_127 ?_
        refine x_iload_n E dX7_layCode_128 rfl 3 rfl ?_
        refine x_iadd E dX7_layCode_129 ?_
        refine x_iald E rfl rfl (by decide) dX7_layCode_130 hm (fun x_11 hm => ?_)
        refine x_bipush (v := (iI 48)) E dX7_layCode_131 (by decide) ?_
        refine x_isub E dX7_layCode_133 ?_
        refine x_iast E rfl rfl (by decide) dX7_layCode_134 hm (fun w_12 hm => ?_)
        refine x_iincB (lv' := fun x_13 => [(3, .int x_13), (0, .ref (ad 12 0)), (1, .int b1), (2, .int b2)]) (j := 3) E dX7_layCode_135 rfl rfl (by decide) (fun _ => rfl) hm (fun x_13 hm => ?_)
        refine x_goto (tgt := 101) E dX7_layCode_138 (by decide) ?_
        exact x_weak [1, 2, 3, 0] rfl ((ih) b1 b2 x_13 w_12 hm)
  have hL99 : ∀ (b1 : Int32) (b2 : Int32) (w : Wd), X7_layCode_L99 b1 b2 w = some w' → XV p l e { frames := 1, cells := 0, slots := 0, locals := 21 } s m args below meth c 4 D cs ad (MQ below (xQ D cs ad none w') args s 0 0 (xF ad)) 99 [(0, .ref (ad 12 0)), (1, .int b1), (2, .int b2)] [] w := by
    intro b1 b2 w hm
    unfold X7_layCode_L99 at hm
    refine x_iconst (v := (iI 0)) E dX7_layCode_99 (by decide) ?_
    refine x_istore_n (lv' := [(3, .int (iI 0)), (0, .ref (ad 12 0)), (1, .int b1), (2, .int b2)]) E dX7_layCode_100 rfl (by decide) rfl ?_
    exact x_weak [1, 2, 3, 0] rfl ((hL101 1000) b1 b2 (iI 0) w hm)
  unfold X7_layCode at hm
  refine x_iconst (v := (iI 1)) E dX7_layCode_0 (by decide) ?_
  refine x_aload_n E dX7_layCode_1 rfl 0 rfl ?_
  refine x_gf (v := .int (rd w 12 0 12)) E fr_X7_92 rfl rfl dX7_layCode_2 ?_
  refine x_callS (As := [.int (rd w 12 0 12)]) (rest := [.int (iI 1)]) E my_X7_digitsOf wG836 (c_X7_digitsOf l D cs ad rfl) rfl ⟨Nat.le_of_ble_eq_true rfl, Nat.le_of_ble_eq_true rfl⟩ (Nat.le_of_ble_eq_true rfl) dX7_layCode_5 ?_
  refine x_iadd E dX7_layCode_8 ?_
  refine x_bI hm (fun x_1 hm => ?_)
  refine x_istore_n (lv' := [(2, .int x_1), (0, .ref (ad 12 0)), (1, .int a1)]) E dX7_layCode_9 rfl (by decide) rfl ?_
  refine x_aload_n E dX7_layCode_10 rfl 1 rfl ?_
  refine x_gf (v := .ref (ad 12 1)) E fr_X7_7 rfl rfl dX7_layCode_11 ?_
  refine x_iload_n E dX7_layCode_14 rfl 2 rfl ?_
  refine x_aload_n E dX7_layCode_15 rfl 1 rfl ?_
  refine x_gf (v := .int (rd w 12 0 12)) E fr_X7_92 rfl rfl dX7_layCode_16 ?_
  refine x_iast E rfl rfl (by decide) dX7_layCode_19 hm (fun w_2 hm => ?_)
  refine x_aload_n E dX7_layCode_20 rfl 1 rfl ?_
  refine x_gf (v := .ref (ad 12 2)) E fr_X7_13 rfl rfl dX7_layCode_21 ?_
  refine x_iload_n E dX7_layCode_24 rfl 2 rfl ?_
  refine x_iload_n E dX7_layCode_25 rfl 0 rfl ?_
  refine x_iconst (v := (iI 2)) E dX7_layCode_26 (by decide) ?_
  refine x_icmp_ne (tgt := 42) E dX7_layCode_27 (by decide) hm (fun _ hm => ?_) (fun _ hm => ?_)
  · refine x_iconst (v := (iI 0)) E dX7_layCode_42 (by decide) ?_
    refine x_iast E rfl rfl (by decide) dX7_layCode_43 hm (fun w_3 hm => ?_)
    refine x_iconst (v := (iI 0)) E dX7_layCode_44 (by decide) ?_
    refine x_istore_n (lv' := [(3, .int (iI 0)), (2, .int x_1), (0, .ref (ad 12 0)), (1, .int a1)]) E dX7_layCode_45 rfl (by decide) rfl ?_
    exact x_weak [2, 3, 1, 0] rfl ((hL46 1000 _ (hL99)) a1 x_1 (iI 0) w_3 hm)
  · refine x_aload_n E dX7_layCode_30 rfl 1 rfl ?_
    refine x_gf (v := .ref (ad 12 6)) E fr_X7_29 rfl rfl dX7_layCode_31 ?_
    refine x_iconst (v := (iI 1)) E dX7_layCode_34 (by decide) ?_
    refine x_iald E rfl rfl (by decide) dX7_layCode_35 hm (fun x_4 hm => ?_)
    refine x_bipush (v := (iI 48)) E dX7_layCode_36 (by decide) ?_
    refine x_isub E dX7_layCode_38 ?_
    refine x_goto (tgt := 43) E dX7_layCode_39 (by decide) ?_
    refine x_iast E rfl rfl (by decide) dX7_layCode_43 hm (fun w_5 hm => ?_)
    refine x_iconst (v := (iI 0)) E dX7_layCode_44 (by decide) ?_
    refine x_istore_n (lv' := [(3, .int (iI 0)), (2, .int x_1), (0, .ref (ad 12 0)), (1, .int a1)]) E dX7_layCode_45 rfl (by decide) rfl ?_
    exact x_weak [2, 3, 1, 0] rfl ((hL46 1000 _ (hL99)) a1 x_1 (iI 0) w_5 hm)
set_option maxRecDepth 100000 in
set_option maxHeartbeats 4000000 in
theorem c_X7_code (l : Launch) (D : va_G) (cs : vCs) (ad : Nat → Nat → Nat) {w : Wd} {r : Int32} {w' : Wd} (hm : X7_code w = some (r, w')) : Mc l yX7_code cX7_code 1 (some .int) 3 66 D cs ad [.ref (ad 12 0)] w (some (.int r)) w' := by
  refine Mc.of (by decide) (Nat.le_of_ble_eq_true rfl) ?_
  intro p e s m args below meth c E
  replace E : EV p m c cX7_code 1 s args RX7 yX7_code (some .int) meth D cs ad := E
  unfold X7_code at hm
  refine x_aload_n E dX7_code_0 rfl 0 rfl ?_
  obtain ⟨r_1, w_2, hc, hm⟩ := bI_inv hm
  refine x_callV (As := []) (rest := []) E my_X7_read wG825 (c_X7_read l D cs ad hc) rfl rfl rfl ⟨Nat.le_of_ble_eq_true rfl, Nat.le_of_ble_eq_true rfl⟩ (Nat.le_of_ble_eq_true rfl) dX7_code_1 ?_
  refine x_aload_n E dX7_code_4 rfl 0 rfl ?_
  refine x_gf (v := .int (rd w_2 12 0 10)) E fr_X7_79 rfl rfl dX7_code_5 ?_
  refine x_icmp_lt (tgt := 32) E dX7_code_8 (by decide) hm (fun _ hm => ?_) (fun _ hm => ?_)
  · refine x_bipush (v := (iI (-103))) E dX7_code_32 (by decide) ?_
    exact x_iretS E hm dX7_code_34
  · refine x_aload_n E dX7_code_11 rfl 0 rfl ?_
    refine x_gf (v := .int (rd w_2 12 0 10)) E fr_X7_79 rfl rfl dX7_code_12 ?_
    refine x_if_eq (tgt := 32) E dX7_code_15 (by decide) hm (fun _ hm => ?_) (fun _ hm => ?_)
    · refine x_bipush (v := (iI (-103))) E dX7_code_32 (by decide) ?_
      exact x_iretS E hm dX7_code_34
    · refine x_aload_n E dX7_code_18 rfl 0 rfl ?_
      refine x_gf (v := .int (rd w_2 12 0 10)) E fr_X7_79 rfl rfl dX7_code_19 ?_
      refine x_aload_n E dX7_code_22 rfl 0 rfl ?_
      refine x_gf (v := .int (rd w_2 12 0 12)) E fr_X7_92 rfl rfl dX7_code_23 ?_
      refine x_callS (As := [.int (rd w_2 12 0 12)]) (rest := [.int (rd w_2 12 0 10)]) E my_X7_lettersOf wG849 (c_X7_lettersOf l D cs ad rfl) rfl ⟨Nat.le_of_ble_eq_true rfl, Nat.le_of_ble_eq_true rfl⟩ (Nat.le_of_ble_eq_true rfl) dX7_code_26 ?_
      refine x_icmp_ge (tgt := 35) E dX7_code_29 (by decide) hm (fun _ hm => ?_) (fun _ hm => ?_)
      · refine x_aload_n E dX7_code_35 rfl 0 rfl ?_
        refine x_gf (v := .int (rd w_2 12 0 0)) E fr_X7_110 rfl rfl dX7_code_36 ?_
        refine x_iconst (v := (iI 4)) E dX7_code_39 (by decide) ?_
        refine x_icmp_ne (tgt := 46) E dX7_code_40 (by decide) hm (fun _ hm => ?_) (fun _ hm => ?_)
        · refine x_aload_n E dX7_code_46 rfl 0 rfl ?_
          refine x_aload_n E dX7_code_47 rfl 0 rfl ?_
          refine x_gf (v := .int (rd w_2 12 0 0)) E fr_X7_110 rfl rfl dX7_code_48 ?_
          obtain ⟨w_3, hc, hm⟩ := ob_inv hm
          refine x_callV (As := [.int (rd w_2 12 0 0)]) (rest := []) E my_X7_layCode wG852 (c_X7_layCode l D cs ad hc) rfl rfl rfl ⟨Nat.le_of_ble_eq_true rfl, Nat.le_of_ble_eq_true rfl⟩ (Nat.le_of_ble_eq_true rfl) dX7_code_51 ?_
          refine x_aload_n E dX7_code_54 rfl 0 rfl ?_
          refine x_dup E dX7_code_55 rfl ?_
          refine x_gf (v := .int (rd w_3 12 0 0)) E fr_X7_110 rfl rfl dX7_code_56 ?_
          refine x_iconst (v := (iI 1)) E dX7_code_59 (by decide) ?_
          refine x_iadd E dX7_code_60 ?_
          refine x_pf E fr_X7_110 rfl (by decide) rfl rfl dX7_code_61 ?_
          refine x_bW hm (fun w_4 hm => ?_)
          refine x_aload_n E dX7_code_64 rfl 0 rfl ?_
          refine x_dup E dX7_code_65 rfl ?_
          refine x_gf (v := .int (rd w_4 12 0 5)) E fr_X7_117 rfl rfl dX7_code_66 ?_
          refine x_iconst (v := (iI 1)) E dX7_code_69 (by decide) ?_
          refine x_iadd E dX7_code_70 ?_
          refine x_pf E fr_X7_117 rfl (by decide) rfl rfl dX7_code_71 ?_
          refine x_bW hm (fun w_5 hm => ?_)
          refine x_aload_n E dX7_code_74 rfl 0 rfl ?_
          refine x_iconst (v := (iI 0)) E dX7_code_75 (by decide) ?_
          refine x_pf E fr_X7_79 rfl (by decide) rfl rfl dX7_code_76 ?_
          refine x_bW hm (fun w_6 hm => ?_)
          refine x_aload_n E dX7_code_79 rfl 0 rfl ?_
          refine x_gf (v := .int (rd w_6 12 0 0)) E fr_X7_110 rfl rfl dX7_code_80 ?_
          refine x_iconst (v := (iI 1)) E dX7_code_83 (by decide) ?_
          refine x_isub E dX7_code_84 ?_
          exact x_iretS E hm dX7_code_85
        · refine x_bipush (v := (iI (-104))) E dX7_code_43 (by decide) ?_
          exact x_iretS E hm dX7_code_45
      · refine x_bipush (v := (iI (-103))) E dX7_code_32 (by decide) ?_
        exact x_iretS E hm dX7_code_34
set_option maxRecDepth 100000 in
set_option maxHeartbeats 4000000 in
theorem c_X7_comes (l : Launch) (D : va_G) (cs : vCs) (ad : Nat → Nat → Nat) {w : Wd} {a1 : Int32} {w' : Wd} (hm : X7_comes w a1 = some w') : Mc l yX7_comes cX7_comes 2 none 0 0 D cs ad [.ref (ad 12 0), .int a1] w none w' := by
  refine Mc.of (by decide) (Nat.le_of_ble_eq_true rfl) ?_
  intro p e s m args below meth c E
  replace E : EV p m c cX7_comes 2 s args RX7 yX7_comes none meth D cs ad := E
  unfold X7_comes at hm
  refine x_aload_n E dX7_comes_0 rfl 0 rfl ?_
  refine x_gf (v := .ref (ad 12 5)) E fr_X7_26 rfl rfl dX7_comes_1 ?_
  refine x_aload_n E dX7_comes_4 rfl 0 rfl ?_
  refine x_gf (v := .int (rd w 12 0 8)) E fr_X7_133 rfl rfl dX7_comes_5 ?_
  refine x_iload_n E dX7_comes_8 rfl 1 rfl ?_
  refine x_iast E rfl rfl (by decide) dX7_comes_9 hm (fun w_1 hm => ?_)
  refine x_aload_n E dX7_comes_10 rfl 0 rfl ?_
  refine x_dup E dX7_comes_11 rfl ?_
  refine x_gf (v := .int (rd w_1 12 0 8)) E fr_X7_133 rfl rfl dX7_comes_12 ?_
  refine x_iconst (v := (iI 1)) E dX7_comes_15 (by decide) ?_
  refine x_iadd E dX7_comes_16 ?_
  refine x_pf E fr_X7_133 rfl (by decide) rfl rfl dX7_comes_17 ?_
  refine x_bW hm (fun w_2 hm => ?_)
  refine x_aload_n E dX7_comes_20 rfl 0 rfl ?_
  refine x_dup E dX7_comes_21 rfl ?_
  refine x_gf (v := .int (rd w_2 12 0 6)) E fr_X7_136 rfl rfl dX7_comes_22 ?_
  refine x_iconst (v := (iI 1)) E dX7_comes_25 (by decide) ?_
  refine x_iadd E dX7_comes_26 ?_
  refine x_pf E fr_X7_136 rfl (by decide) rfl rfl dX7_comes_27 ?_
  refine x_bW hm (fun w_3 hm => ?_)
  exact x_vretS E hm dX7_comes_30
set_option maxRecDepth 100000 in
set_option maxHeartbeats 4000000 in
theorem c_X7_validMany (l : Launch) (D : va_G) (cs : vCs) (ad : Nat → Nat → Nat) {w : Wd} {r : Int32} {w' : Wd} (hm : X7_validMany w = some (r, w')) : Mc l yX7_validMany cX7_validMany 3 (some .int) 6 136 D cs ad [.ref (ad 12 0)] w (some (.int r)) w' := by
  refine Mc.of (by decide) (Nat.le_of_ble_eq_true rfl) ?_
  intro p e s m args below meth c E
  replace E : EV p m c cX7_validMany 3 s args RX7 yX7_validMany (some .int) meth D cs ad := E
  have hL4 : ∀ (fuel : Nat) (b1 : Int32) (b2 : Int32) (w : Wd), X7_validMany_L4 fuel b1 b2 w = some (r, w') → XV p l e { frames := 6, cells := 0, slots := 0, locals := 136 } s m args below meth c 3 D cs ad (MQ below (xQ D cs ad (some (.int r)) w') args s 0 0 (xF ad)) 4 [(0, .ref (ad 12 0)), (1, .int b1), (2, .int b2)] [] w := by
    intro fuel
    induction fuel with
    | zero => intro b1 b2 w hm; cases hm
    | succ fuel ih =>
      intro b1 b2 w hm
      rw [X7_validMany_L4] at hm
      refine x_iload_n E dX7_validMany_4 rfl 2 rfl ?_
      refine x_aload_n E dX7_validMany_5 rfl 0 rfl ?_
      refine x_gf (v := .int (rd w 12 0 0)) E fr_X7_110 rfl rfl dX7_validMany_6 ?_
      refine x_icmp_ge (tgt := 34) E dX7_validMany_9 (by decide) hm (fun _ hm => ?_) (fun _ hm => ?_)
      · refine x_iload_n E dX7_validMany_34 rfl 1 rfl ?_
        exact x_iretS E hm dX7_validMany_35
      · refine x_iload_n E dX7_validMany_12 rfl 1 rfl ?_
        refine x_aload_n E dX7_validMany_13 rfl 0 rfl ?_
        refine x_iload_n E dX7_validMany_14 rfl 2 rfl ?_
        obtain ⟨r_1, w_2, hc, hm⟩ := bI_inv hm
        refine x_callV (As := [.int b2]) (rest := [.int b1]) E my_X7_isValid wG942 (c_X7_isValid l D cs ad hc) rfl rfl rfl ⟨Nat.le_of_ble_eq_true rfl, Nat.le_of_ble_eq_true rfl⟩ (Nat.le_of_ble_eq_true rfl) dX7_validMany_15 ?_
        refine x_if_eq (tgt := 25) E dX7_validMany_18 (by decide) hm (fun _ hm => ?_) (fun _ hm => ?_)
        · refine x_iconst (v := (iI 0)) E dX7_validMany_25 (by decide) ?_
          refine x_iadd E dX7_validMany_26 ?_
          refine x_bI hm (fun x_3 hm => ?_)
          refine x_istore_n (lv' := [(1, .int x_3), (0, .ref (ad 12 0)), (2, .int b2)]) E dX7_validMany_27 rfl (by decide) rfl ?_
          refine x_iincB (lv' := fun x_4 => [(2, .int x_4), (1, .int x_3), (0, .ref (ad 12 0))]) (j := 2) E dX7_validMany_28 rfl rfl (by decide) (fun _ => rfl) hm (fun x_4 hm => ?_)
          refine x_goto (tgt := 4) E dX7_validMany_31 (by decide) ?_
          exact x_weak [2, 1, 0] rfl ((ih) x_3 x_4 w_2 hm)
        · refine x_iconst (v := (iI 1)) E dX7_validMany_21 (by decide) ?_
          refine x_goto (tgt := 26) E dX7_validMany_22 (by decide) ?_
          refine x_iadd E dX7_validMany_26 ?_
          refine x_bI hm (fun x_5 hm => ?_)
          refine x_istore_n (lv' := [(1, .int x_5), (0, .ref (ad 12 0)), (2, .int b2)]) E dX7_validMany_27 rfl (by decide) rfl ?_
          refine x_iincB (lv' := fun x_6 => [(2, .int x_6), (1, .int x_5), (0, .ref (ad 12 0))]) (j := 2) E dX7_validMany_28 rfl rfl (by decide) (fun _ => rfl) hm (fun x_6 hm => ?_)
          refine x_goto (tgt := 4) E dX7_validMany_31 (by decide) ?_
          exact x_weak [2, 1, 0] rfl ((ih) x_5 x_6 w_2 hm)
  unfold X7_validMany at hm
  refine x_iconst (v := (iI 0)) E dX7_validMany_0 (by decide) ?_
  refine x_istore_n (lv' := [(1, .int (iI 0)), (0, .ref (ad 12 0))]) E dX7_validMany_1 rfl (by decide) rfl ?_
  refine x_iconst (v := (iI 0)) E dX7_validMany_2 (by decide) ?_
  refine x_istore_n (lv' := [(2, .int (iI 0)), (1, .int (iI 0)), (0, .ref (ad 12 0))]) E dX7_validMany_3 rfl (by decide) rfl ?_
  exact x_weak [2, 1, 0] rfl ((hL4 1000) (iI 0) (iI 0) w hm)
set_option maxRecDepth 100000 in
set_option maxHeartbeats 4000000 in
theorem c_X7_howMany (l : Launch) (D : va_G) (cs : vCs) (ad : Nat → Nat → Nat) {w : Wd} {a1 : Int32} {r : Int32} {w' : Wd} (hm : X7_howMany w a1 = some (r, w')) : Mc l yX7_howMany cX7_howMany 2 (some .int) 7 158 D cs ad [.ref (ad 12 0), .int a1] w (some (.int r)) w' := by
  refine Mc.of (by decide) (Nat.le_of_ble_eq_true rfl) ?_
  intro p e s m args below meth c E
  replace E : EV p m c cX7_howMany 2 s args RX7 yX7_howMany (some .int) meth D cs ad := E
  unfold X7_howMany at hm
  refine x_iload_n E dX7_howMany_0 rfl 1 rfl ?_
  refine x_split hm (fun hx hm => ?_) (fun hs0 hm => ?_)
  · refine x_tin (kv := (iI 0)) (tgt := 48) E dX7_howMany_1 hx rfl (by decide) (by decide) rfl (by decide) ?_
    refine x_aload_n E dX7_howMany_48 rfl 0 rfl ?_
    refine x_gf (v := .int (rd w 12 0 0)) E fr_X7_110 rfl rfl dX7_howMany_49 ?_
    exact x_iretS E hm dX7_howMany_52
  refine x_split hm (fun hx hm => ?_) (fun hs1 hm => ?_)
  · refine x_tin (kv := (iI 1)) (tgt := 53) E dX7_howMany_1 hx rfl (by decide) (by decide) rfl (by decide) ?_
    refine x_aload_n E dX7_howMany_53 rfl 0 rfl ?_
    refine x_gf (v := .int (rd w 12 0 8)) E fr_X7_133 rfl rfl dX7_howMany_54 ?_
    exact x_iretS E hm dX7_howMany_57
  refine x_split hm (fun hx hm => ?_) (fun hs2 hm => ?_)
  · refine x_tin (kv := (iI 2)) (tgt := 58) E dX7_howMany_1 hx rfl (by decide) (by decide) rfl (by decide) ?_
    refine x_aload_n E dX7_howMany_58 rfl 0 rfl ?_
    refine x_gf (v := .int (rd w 12 0 7)) E fr_X7_22 rfl rfl dX7_howMany_59 ?_
    exact x_iretS E hm dX7_howMany_62
  refine x_split hm (fun hx hm => ?_) (fun hs3 hm => ?_)
  · refine x_tin (kv := (iI 3)) (tgt := 63) E dX7_howMany_1 hx rfl (by decide) (by decide) rfl (by decide) ?_
    refine x_aload_n E dX7_howMany_63 rfl 0 rfl ?_
    obtain ⟨r_1, w_2, hc, hm⟩ := bI_inv hm
    refine x_callV (As := []) (rest := []) E my_X7_aliveMany wG1121 (c_X7_aliveMany l D cs ad hc) rfl rfl rfl ⟨Nat.le_of_ble_eq_true rfl, Nat.le_of_ble_eq_true rfl⟩ (Nat.le_of_ble_eq_true rfl) dX7_howMany_64 ?_
    exact x_iretS E hm dX7_howMany_67
  refine x_split hm (fun hx hm => ?_) (fun hs4 hm => ?_)
  · refine x_tin (kv := (iI 4)) (tgt := 68) E dX7_howMany_1 hx rfl (by decide) (by decide) rfl (by decide) ?_
    refine x_aload_n E dX7_howMany_68 rfl 0 rfl ?_
    obtain ⟨r_3, w_4, hc, hm⟩ := bI_inv hm
    refine x_callV (As := []) (rest := []) E my_X7_validMany wG1125 (c_X7_validMany l D cs ad hc) rfl rfl rfl ⟨Nat.le_of_ble_eq_true rfl, Nat.le_of_ble_eq_true rfl⟩ (Nat.le_of_ble_eq_true rfl) dX7_howMany_69 ?_
    exact x_iretS E hm dX7_howMany_72
  refine x_split hm (fun hx hm => ?_) (fun hs5 hm => ?_)
  · refine x_tin (kv := (iI 5)) (tgt := 73) E dX7_howMany_1 hx rfl (by decide) (by decide) rfl (by decide) ?_
    refine x_aload_n E dX7_howMany_73 rfl 0 rfl ?_
    refine x_gf (v := .int (rd w 12 0 10)) E fr_X7_79 rfl rfl dX7_howMany_74 ?_
    exact x_iretS E hm dX7_howMany_77
  refine x_split hm (fun hx hm => ?_) (fun hs6 hm => ?_)
  · refine x_tin (kv := (iI 6)) (tgt := 78) E dX7_howMany_1 hx rfl (by decide) (by decide) rfl (by decide) ?_
    refine x_aload_n E dX7_howMany_78 rfl 0 rfl ?_
    refine x_gf (v := .int (rd w 12 0 5)) E fr_X7_117 rfl rfl dX7_howMany_79 ?_
    exact x_iretS E hm dX7_howMany_82
  refine x_split hm (fun hx hm => ?_) (fun hs7 hm => ?_)
  · refine x_tin (kv := (iI 7)) (tgt := 83) E dX7_howMany_1 hx rfl (by decide) (by decide) rfl (by decide) ?_
    refine x_aload_n E dX7_howMany_83 rfl 0 rfl ?_
    refine x_gf (v := .int (rd w 12 0 6)) E fr_X7_136 rfl rfl dX7_howMany_84 ?_
    exact x_iretS E hm dX7_howMany_87
  refine x_tout (tgt := 88) E dX7_howMany_1 (by have := lv_neT (a := 0) hs0 rfl; have := lv_neT (a := 1) hs1 rfl; have := lv_neT (a := 2) hs2 rfl; have := lv_neT (a := 3) hs3 rfl; have := lv_neT (a := 4) hs4 rfl; have := lv_neT (a := 5) hs5 rfl; have := lv_neT (a := 6) hs6 rfl; have := lv_neT (a := 7) hs7 rfl; omega) (by decide) ?_
  refine x_bipush (v := (iI (-102))) E dX7_howMany_88 (by decide) ?_
  exact x_iretS E hm dX7_howMany_90
set_option maxRecDepth 100000 in
set_option maxHeartbeats 4000000 in
theorem c_X7_count (l : Launch) (D : va_G) (cs : vCs) (ad : Nat → Nat → Nat) {w : Wd} {a1 : Int32} {r : Int32} {w' : Wd} (hm : X7_count w a1 = some (r, w')) : Mc l yX7_count cX7_count 2 (some .int) 8 179 D cs ad [.ref (ad 12 0), .int a1] w (some (.int r)) w' := by
  refine Mc.of (by decide) (Nat.le_of_ble_eq_true rfl) ?_
  intro p e s m args below meth c E
  replace E : EV p m c cX7_count 2 s args RX7 yX7_count (some .int) meth D cs ad := E
  unfold X7_count at hm
  refine x_aload_n E dX7_count_0 rfl 0 rfl ?_
  refine x_iload_n E dX7_count_1 rfl 1 rfl ?_
  obtain ⟨r_1, w_2, hc, hm⟩ := bI_inv hm
  refine x_callV (As := [.int a1]) (rest := []) E my_X7_howMany wG1117 (c_X7_howMany l D cs ad hc) rfl rfl rfl ⟨Nat.le_of_ble_eq_true rfl, Nat.le_of_ble_eq_true rfl⟩ (Nat.le_of_ble_eq_true rfl) dX7_count_2 ?_
  exact x_iretS E hm dX7_count_5
set_option maxRecDepth 100000 in
set_option maxHeartbeats 4000000 in
theorem c_X7_cuts (l : Launch) (D : va_G) (cs : vCs) (ad : Nat → Nat → Nat) {w : Wd} {a1 : Int32} {r : Int32} {w' : Wd} (hm : X7_cuts w a1 = some (r, w')) : Mc l yX7_cuts cX7_cuts 2 (some .int) 6 135 D cs ad [.ref (ad 12 0), .int a1] w (some (.int r)) w' := by
  refine Mc.of (by decide) (Nat.le_of_ble_eq_true rfl) ?_
  intro p e s m args below meth c E
  replace E : EV p m c cX7_cuts 2 s args RX7 yX7_cuts (some .int) meth D cs ad := E
  unfold X7_cuts at hm
  refine x_iload_n E dX7_cuts_0 rfl 1 rfl ?_
  refine x_iconst (v := (iI 0)) E dX7_cuts_1 (by decide) ?_
  refine x_iconst (v := (iI 1)) E dX7_cuts_2 (by decide) ?_
  refine x_callS (As := [.int a1, .int (iI 0), .int (iI 1)]) (rest := []) E my_X7_within wG814 (c_X7_within l D cs ad rfl) rfl ⟨Nat.le_of_ble_eq_true rfl, Nat.le_of_ble_eq_true rfl⟩ (Nat.le_of_ble_eq_true rfl) dX7_cuts_3 ?_
  refine x_if_ne (tgt := 12) E dX7_cuts_6 (by decide) hm (fun _ hm => ?_) (fun _ hm => ?_)
  · refine x_aload_n E dX7_cuts_12 rfl 0 rfl ?_
    obtain ⟨r_1, w_2, hc, hm⟩ := bI_inv hm
    refine x_callV (As := []) (rest := []) E my_X7_areCuts wG1093 (c_X7_areCuts l D cs ad hc) rfl rfl rfl ⟨Nat.le_of_ble_eq_true rfl, Nat.le_of_ble_eq_true rfl⟩ (Nat.le_of_ble_eq_true rfl) dX7_cuts_13 ?_
    refine x_if_ne (tgt := 24) E dX7_cuts_16 (by decide) hm (fun _ hm => ?_) (fun _ hm => ?_)
    · refine x_iload_n E dX7_cuts_24 rfl 1 rfl ?_
      refine x_if_ne (tgt := 37) E dX7_cuts_25 (by decide) hm (fun _ hm => ?_) (fun _ hm => ?_)
      · refine x_aload_n E dX7_cuts_37 rfl 0 rfl ?_
        refine x_gf (v := .ref (ad 12 17)) E fr_X7_63 rfl rfl dX7_cuts_38 ?_
        refine x_iconst (v := (iI 0)) E dX7_cuts_41 (by decide) ?_
        refine x_iald E rfl rfl (by decide) dX7_cuts_42 hm (fun x_3 hm => ?_)
        exact x_iretS E hm dX7_cuts_43
      · refine x_aload_n E dX7_cuts_28 rfl 0 rfl ?_
        refine x_gf (v := .ref (ad 12 16)) E fr_X7_60 rfl rfl dX7_cuts_29 ?_
        refine x_iconst (v := (iI 0)) E dX7_cuts_32 (by decide) ?_
        refine x_iald E rfl rfl (by decide) dX7_cuts_33 hm (fun x_4 hm => ?_)
        refine x_goto (tgt := 43) E dX7_cuts_34 (by decide) ?_
        exact x_iretS E hm dX7_cuts_43
    · refine x_bipush (v := (iI (-103))) E dX7_cuts_19 (by decide) ?_
      refine x_goto (tgt := 43) E dX7_cuts_21 (by decide) ?_
      exact x_iretS E hm dX7_cuts_43
  · refine x_bipush (v := (iI (-102))) E dX7_cuts_9 (by decide) ?_
    exact x_iretS E hm dX7_cuts_11
set_option maxRecDepth 100000 in
set_option maxHeartbeats 4000000 in
theorem c_X7_letterOf (l : Launch) (D : va_G) (cs : vCs) (ad : Nat → Nat → Nat) {w : Wd} {a0 : Int32} {r : Int32} (hm : X7_letterOf a0 = r) : Mc l yX7_letterOf cX7_letterOf 1 (some .int) 0 0 D cs ad [.int a0] w (some (.int r)) w := by
  refine Mc.of (by decide) (Nat.le_of_ble_eq_true rfl) ?_
  intro p e s m args below meth c E
  replace E : EV p m c cX7_letterOf 1 s args RX7 yX7_letterOf (some .int) meth D cs ad := E
  unfold X7_letterOf at hm
  refine x_iload_n E dX7_letterOf_0 rfl 0 rfl ?_
  refine x_if_ne (tgt := 9) E dX7_letterOf_1 (by decide) hm (fun _ hm => ?_) (fun _ hm => ?_)
  · refine x_iload_n E dX7_letterOf_9 rfl 0 rfl ?_
    refine x_iconst (v := (iI 1)) E dX7_letterOf_10 (by decide) ?_
    refine x_icmp_ne (tgt := 19) E dX7_letterOf_11 (by decide) hm (fun _ hm => ?_) (fun _ hm => ?_)
    · refine x_iload_n E dX7_letterOf_19 rfl 0 rfl ?_
      refine x_iconst (v := (iI 2)) E dX7_letterOf_20 (by decide) ?_
      refine x_icmp_ne (tgt := 29) E dX7_letterOf_21 (by decide) hm (fun _ hm => ?_) (fun _ hm => ?_)
      · refine x_bipush (v := (iI 116)) E dX7_letterOf_29 (by decide) ?_
        exact x_iretT E hm dX7_letterOf_31
      · refine x_bipush (v := (iI 99)) E dX7_letterOf_24 (by decide) ?_
        refine x_goto (tgt := 31) E dX7_letterOf_26 (by decide) ?_
        exact x_iretT E hm dX7_letterOf_31
    · refine x_bipush (v := (iI 112)) E dX7_letterOf_14 (by decide) ?_
      refine x_goto (tgt := 31) E dX7_letterOf_16 (by decide) ?_
      exact x_iretT E hm dX7_letterOf_31
  · refine x_bipush (v := (iI 102)) E dX7_letterOf_4 (by decide) ?_
    refine x_goto (tgt := 31) E dX7_letterOf_6 (by decide) ?_
    exact x_iretT E hm dX7_letterOf_31
set_option maxRecDepth 100000 in
set_option maxHeartbeats 4000000 in
theorem c_X7_markLetter (l : Launch) (D : va_G) (cs : vCs) (ad : Nat → Nat → Nat) {w : Wd} {a0 : Int32} {r : Int32} (hm : X7_markLetter a0 = r) : Mc l yX7_markLetter cX7_markLetter 1 (some .int) 0 0 D cs ad [.int a0] w (some (.int r)) w := by
  refine Mc.of (by decide) (Nat.le_of_ble_eq_true rfl) ?_
  intro p e s m args below meth c E
  replace E : EV p m c cX7_markLetter 1 s args RX7 yX7_markLetter (some .int) meth D cs ad := E
  unfold X7_markLetter at hm
  refine x_iload_n E dX7_markLetter_0 rfl 0 rfl ?_
  refine x_split hm (fun hx hm => ?_) (fun hs0 hm => ?_)
  · refine x_tin (kv := (iI 0)) (tgt := 48) E dX7_markLetter_1 hx rfl (by decide) (by decide) rfl (by decide) ?_
    refine x_bipush (v := (iI 97)) E dX7_markLetter_48 (by decide) ?_
    exact x_iretT E hm dX7_markLetter_50
  refine x_split hm (fun hx hm => ?_) (fun hs1 hm => ?_)
  · refine x_tin (kv := (iI 1)) (tgt := 51) E dX7_markLetter_1 hx rfl (by decide) (by decide) rfl (by decide) ?_
    refine x_bipush (v := (iI 98)) E dX7_markLetter_51 (by decide) ?_
    exact x_iretT E hm dX7_markLetter_53
  refine x_split hm (fun hx hm => ?_) (fun hs2 hm => ?_)
  · refine x_tin (kv := (iI 2)) (tgt := 54) E dX7_markLetter_1 hx rfl (by decide) (by decide) rfl (by decide) ?_
    refine x_bipush (v := (iI 33)) E dX7_markLetter_54 (by decide) ?_
    exact x_iretT E hm dX7_markLetter_56
  refine x_split hm (fun hx hm => ?_) (fun hs3 hm => ?_)
  · refine x_tin (kv := (iI 3)) (tgt := 60) E dX7_markLetter_1 hx rfl (by decide) (by decide) rfl (by decide) ?_
    refine x_bipush (v := (iI 99)) E dX7_markLetter_60 (by decide) ?_
    refine x_iload_n E dX7_markLetter_62 rfl 0 rfl ?_
    refine x_iadd E dX7_markLetter_63 ?_
    refine x_iconst (v := (iI 3)) E dX7_markLetter_64 (by decide) ?_
    refine x_isub E dX7_markLetter_65 ?_
    exact x_iretT E hm dX7_markLetter_66
  refine x_split hm (fun hx hm => ?_) (fun hs4 hm => ?_)
  · refine x_tin (kv := (iI 4)) (tgt := 60) E dX7_markLetter_1 hx rfl (by decide) (by decide) rfl (by decide) ?_
    refine x_bipush (v := (iI 99)) E dX7_markLetter_60 (by decide) ?_
    refine x_iload_n E dX7_markLetter_62 rfl 0 rfl ?_
    refine x_iadd E dX7_markLetter_63 ?_
    refine x_iconst (v := (iI 3)) E dX7_markLetter_64 (by decide) ?_
    refine x_isub E dX7_markLetter_65 ?_
    exact x_iretT E hm dX7_markLetter_66
  refine x_split hm (fun hx hm => ?_) (fun hs5 hm => ?_)
  · refine x_tin (kv := (iI 5)) (tgt := 60) E dX7_markLetter_1 hx rfl (by decide) (by decide) rfl (by decide) ?_
    refine x_bipush (v := (iI 99)) E dX7_markLetter_60 (by decide) ?_
    refine x_iload_n E dX7_markLetter_62 rfl 0 rfl ?_
    refine x_iadd E dX7_markLetter_63 ?_
    refine x_iconst (v := (iI 3)) E dX7_markLetter_64 (by decide) ?_
    refine x_isub E dX7_markLetter_65 ?_
    exact x_iretT E hm dX7_markLetter_66
  refine x_split hm (fun hx hm => ?_) (fun hs6 hm => ?_)
  · refine x_tin (kv := (iI 6)) (tgt := 60) E dX7_markLetter_1 hx rfl (by decide) (by decide) rfl (by decide) ?_
    refine x_bipush (v := (iI 99)) E dX7_markLetter_60 (by decide) ?_
    refine x_iload_n E dX7_markLetter_62 rfl 0 rfl ?_
    refine x_iadd E dX7_markLetter_63 ?_
    refine x_iconst (v := (iI 3)) E dX7_markLetter_64 (by decide) ?_
    refine x_isub E dX7_markLetter_65 ?_
    exact x_iretT E hm dX7_markLetter_66
  refine x_split hm (fun hx hm => ?_) (fun hs7 hm => ?_)
  · refine x_tin (kv := (iI 7)) (tgt := 57) E dX7_markLetter_1 hx rfl (by decide) (by decide) rfl (by decide) ?_
    refine x_bipush (v := (iI 43)) E dX7_markLetter_57 (by decide) ?_
    exact x_iretT E hm dX7_markLetter_59
  refine x_tout (tgt := 60) E dX7_markLetter_1 (by have := lv_neT (a := 0) hs0 rfl; have := lv_neT (a := 1) hs1 rfl; have := lv_neT (a := 2) hs2 rfl; have := lv_neT (a := 3) hs3 rfl; have := lv_neT (a := 4) hs4 rfl; have := lv_neT (a := 5) hs5 rfl; have := lv_neT (a := 6) hs6 rfl; have := lv_neT (a := 7) hs7 rfl; omega) (by decide) ?_
  refine x_bipush (v := (iI 99)) E dX7_markLetter_60 (by decide) ?_
  refine x_iload_n E dX7_markLetter_62 rfl 0 rfl ?_
  refine x_iadd E dX7_markLetter_63 ?_
  refine x_iconst (v := (iI 3)) E dX7_markLetter_64 (by decide) ?_
  refine x_isub E dX7_markLetter_65 ?_
  exact x_iretT E hm dX7_markLetter_66
set_option maxRecDepth 100000 in
set_option maxHeartbeats 4000000 in
theorem c_X7_inkNow (l : Launch) (D : va_G) (cs : vCs) (ad : Nat → Nat → Nat) {w : Wd} {a1 : Int32} {a2 : Int32} {r : Int32} (hm : X7_inkNow w a1 a2 = some r) : Mc l yX7_inkNow cX7_inkNow 5 (some .int) 1 20 D cs ad [.ref (ad 12 0), .int a1, .int a2] w (some (.int r)) w := by
  refine Mc.of (by decide) (Nat.le_of_ble_eq_true rfl) ?_
  intro p e s m args below meth c E
  replace E : EV p m c cX7_inkNow 5 s args RX7 yX7_inkNow (some .int) meth D cs ad := E
  unfold X7_inkNow at hm
  refine x_iload_n E dX7_inkNow_0 rfl 2 rfl ?_
  refine x_if_ne (tgt := 14) E dX7_inkNow_1 (by decide) hm (fun _ hm => ?_) (fun _ hm => ?_)
  · refine x_iload_n E dX7_inkNow_14 rfl 2 rfl ?_
    refine x_iconst (v := (iI 1)) E dX7_inkNow_15 (by decide) ?_
    refine x_isub E dX7_inkNow_16 ?_
    refine x_aload_n E dX7_inkNow_17 rfl 0 rfl ?_
    refine x_gf (v := .ref (ad 12 1)) E fr_X7_7 rfl rfl dX7_inkNow_18 ?_
    refine x_iload_n E dX7_inkNow_21 rfl 1 rfl ?_
    refine x_iald E rfl rfl (by decide) dX7_inkNow_22 hm (fun x_1 hm => ?_)
    refine x_callS (As := [.int x_1]) (rest := [.int (a2 - (iI 1))]) E my_X7_digitsOf wG836 (c_X7_digitsOf l D cs ad rfl) rfl ⟨Nat.le_of_ble_eq_true rfl, Nat.le_of_ble_eq_true rfl⟩ (Nat.le_of_ble_eq_true rfl) dX7_inkNow_23 ?_
    refine x_isub E dX7_inkNow_26 ?_
    refine x_bI hm (fun x_2 hm => ?_)
    refine x_istore_n (lv' := [(3, .int x_2), (0, .ref (ad 12 0)), (1, .int a1), (2, .int a2)]) E dX7_inkNow_27 rfl (by decide) rfl ?_
    refine x_iload_n E dX7_inkNow_28 rfl 0 rfl ?_
    refine x_if_ge (tgt := 42) E dX7_inkNow_29 (by decide) hm (fun _ hm => ?_) (fun _ hm => ?_)
    · refine x_aload_n E dX7_inkNow_42 rfl 1 rfl ?_
      refine x_gf (v := .ref (ad 12 1)) E fr_X7_7 rfl rfl dX7_inkNow_43 ?_
      refine x_iload_n E dX7_inkNow_46 rfl 2 rfl ?_
      refine x_iald E rfl rfl (by decide) dX7_inkNow_47 hm (fun x_3 hm => ?_)
      refine x_callS (As := [.int x_3]) (rest := []) E my_X7_marksOf wG839 (c_X7_marksOf l D cs ad rfl) rfl ⟨Nat.le_of_ble_eq_true rfl, Nat.le_of_ble_eq_true rfl⟩ (Nat.le_of_ble_eq_true rfl) dX7_inkNow_48 ?_
      refine x_bI hm (fun x_4 hm => ?_)
      refine x_istore (lv' := [(4, .int x_4), (3, .int x_2), (0, .ref (ad 12 0)), (1, .int a1), (2, .int a2)]) E dX7_inkNow_51 (by decide) rfl ?_
      refine x_iload_n E dX7_inkNow_53 rfl 1 rfl ?_
      refine x_iload E dX7_inkNow_54 0 rfl ?_
      refine x_icmp_ge (tgt := 76) E dX7_inkNow_56 (by decide) hm (fun _ hm => ?_) (fun _ hm => ?_)
      · refine x_bipush (v := (iI 48)) E dX7_inkNow_76 (by decide) ?_
        refine x_aload_n E dX7_inkNow_78 rfl 2 rfl ?_
        refine x_gf (v := .ref (ad 12 4)) E fr_X7_19 rfl rfl dX7_inkNow_79 ?_
        refine x_iconst (v := (iI 4)) E dX7_inkNow_82 (by decide) ?_
        refine x_iload_n E dX7_inkNow_83 rfl 3 rfl ?_
        refine x_imul E dX7_inkNow_84 ?_
        refine x_iload_n E dX7_inkNow_85 rfl 1 rfl ?_
        refine x_iadd E dX7_inkNow_86 ?_
        refine x_iload E dX7_inkNow_87 0 rfl ?_
        refine x_isub E dX7_inkNow_89 ?_
        refine x_iald E rfl rfl (by decide) dX7_inkNow_90 hm (fun x_5 hm => ?_)
        refine x_iadd E dX7_inkNow_91 ?_
        exact x_iretP E hm dX7_inkNow_92
      · refine x_aload_n E dX7_inkNow_59 rfl 2 rfl ?_
        refine x_gf (v := .ref (ad 12 3)) E fr_X7_16 rfl rfl dX7_inkNow_60 ?_
        refine x_bipush (v := (iI 16)) E dX7_inkNow_63 (by decide) ?_
        refine x_iload_n E dX7_inkNow_65 rfl 3 rfl ?_
        refine x_imul E dX7_inkNow_66 ?_
        refine x_iload_n E dX7_inkNow_67 rfl 1 rfl ?_
        refine x_iadd E dX7_inkNow_68 ?_
        refine x_iald E rfl rfl (by decide) dX7_inkNow_69 hm (fun x_6 hm => ?_)
        refine x_callS (As := [.int x_6]) (rest := []) E my_X7_markLetter wG875 (c_X7_markLetter l D cs ad rfl) rfl ⟨Nat.le_of_ble_eq_true rfl, Nat.le_of_ble_eq_true rfl⟩ (Nat.le_of_ble_eq_true rfl) dX7_inkNow_70 ?_
        refine x_goto (tgt := 92) E dX7_inkNow_73 (by decide) ?_
        exact x_iretP E hm dX7_inkNow_92
    · refine x_bipush (v := (iI 48)) E dX7_inkNow_32 (by decide) ?_
      refine x_aload_n E dX7_inkNow_34 rfl 1 rfl ?_
      refine x_gf (v := .ref (ad 12 2)) E fr_X7_13 rfl rfl dX7_inkNow_35 ?_
      refine x_iload_n E dX7_inkNow_38 rfl 2 rfl ?_
      refine x_iald E rfl rfl (by decide) dX7_inkNow_39 hm (fun x_7 hm => ?_)
      refine x_iadd E dX7_inkNow_40 ?_
      exact x_iretP E hm dX7_inkNow_41
  · refine x_aload_n E dX7_inkNow_4 rfl 0 rfl ?_
    refine x_gf (v := .ref (ad 12 1)) E fr_X7_7 rfl rfl dX7_inkNow_5 ?_
    refine x_iload_n E dX7_inkNow_8 rfl 1 rfl ?_
    refine x_iald E rfl rfl (by decide) dX7_inkNow_9 hm (fun x_8 hm => ?_)
    refine x_callS (As := [.int x_8]) (rest := []) E my_X7_letterOf wG872 (c_X7_letterOf l D cs ad rfl) rfl ⟨Nat.le_of_ble_eq_true rfl, Nat.le_of_ble_eq_true rfl⟩ (Nat.le_of_ble_eq_true rfl) dX7_inkNow_10 ?_
    exact x_iretP E hm dX7_inkNow_13
set_option maxRecDepth 100000 in
set_option maxHeartbeats 4000000 in
theorem c_X7_mix (l : Launch) (D : va_G) (cs : vCs) (ad : Nat → Nat → Nat) {w : Wd} {a1 : Int64} {w' : Wd} (hm : X7_mix w a1 = some w') : Mc l yX7_mix cX7_mix 3 none 0 0 D cs ad [.ref (ad 12 0), .long a1] w none w' := by
  refine Mc.of (by decide) (Nat.le_of_ble_eq_true rfl) ?_
  intro p e s m args below meth c E
  replace E : EV p m c cX7_mix 3 s args RX7 yX7_mix none meth D cs ad := E
  unfold X7_mix at hm
  refine x_aload_n E dX7_mix_0 rfl 0 rfl ?_
  refine x_ldc2 (v := (31 : Int64)) E wG1142 dX7_mix_1 ?_
  refine x_aload_n E dX7_mix_4 rfl 0 rfl ?_
  refine x_gf (v := .long (w.2)) E fr_X7_310 rfl rfl dX7_mix_5 ?_
  refine x_lmul E dX7_mix_8 ?_
  refine x_lload_n E dX7_mix_9 rfl 1 rfl ?_
  refine x_ladd E dX7_mix_10 ?_
  refine x_pl E rfl fr_X7_310 dX7_mix_11 ?_
  refine x_bW hm (fun w_1 hm => ?_)
  exact x_vretS E hm dX7_mix_14
set_option maxRecDepth 100000 in
set_option maxHeartbeats 4000000 in
theorem c_X7_pairsOf (l : Launch) (D : va_G) (cs : vCs) (ad : Nat → Nat → Nat) {w : Wd} {a1 : Int32} {a2 : Int32} {r : Int32} {w' : Wd} (hm : X7_pairsOf w a1 a2 = some (r, w')) : Mc l yX7_pairsOf cX7_pairsOf 3 (some .int) 5 115 D cs ad [.ref (ad 12 0), .int a1, .int a2] w (some (.int r)) w' := by
  refine Mc.of (by decide) (Nat.le_of_ble_eq_true rfl) ?_
  intro p e s m args below meth c E
  replace E : EV p m c cX7_pairsOf 3 s args RX7 yX7_pairsOf (some .int) meth D cs ad := E
  unfold X7_pairsOf at hm
  refine x_aload_n E dX7_pairsOf_0 rfl 0 rfl ?_
  refine x_iload_n E dX7_pairsOf_1 rfl 1 rfl ?_
  refine x_aload_n E dX7_pairsOf_2 rfl 0 rfl ?_
  refine x_gf (v := .int (rd w 12 0 8)) E fr_X7_133 rfl rfl dX7_pairsOf_3 ?_
  obtain ⟨w_1, hc, hm⟩ := ob_inv hm
  refine x_callV (As := [.int a1, .int (rd w 12 0 8)]) (rest := []) E my_X7_goAlong wG914 (c_X7_goAlong l D cs ad hc) rfl rfl rfl ⟨Nat.le_of_ble_eq_true rfl, Nat.le_of_ble_eq_true rfl⟩ (Nat.le_of_ble_eq_true rfl) dX7_pairsOf_6 ?_
  refine x_aload_n E dX7_pairsOf_9 rfl 0 rfl ?_
  refine x_gf (v := .ref (ad 12 7)) E fr_X7_32 rfl rfl dX7_pairsOf_10 ?_
  refine x_iload_n E dX7_pairsOf_13 rfl 2 rfl ?_
  refine x_iald E rfl rfl (by decide) dX7_pairsOf_14 hm (fun x_2 hm => ?_)
  exact x_iretS E hm dX7_pairsOf_15
set_option maxRecDepth 100000 in
set_option maxHeartbeats 4000000 in
theorem c_X7_oneMore (l : Launch) (D : va_G) (cs : vCs) (ad : Nat → Nat → Nat) {w : Wd} {a1 : Int32} {w' : Wd} (hm : X7_oneMore w a1 = some w') : Mc l yX7_oneMore cX7_oneMore 5 none 3 69 D cs ad [.ref (ad 12 0), .int a1] w none w' := by
  refine Mc.of (by decide) (Nat.le_of_ble_eq_true rfl) ?_
  intro p e s m args below meth c E
  replace E : EV p m c cX7_oneMore 5 s args RX7 yX7_oneMore none meth D cs ad := E
  have hL2 : ∀ (fuel : Nat) (k20 : Int32 → Wd → Option Wd) (hk20 : ∀ (b1 : Int32) (w : Wd), k20 b1 w = some w' → XV p l e { frames := 3, cells := 0, slots := 0, locals := 69 } s m args below meth c 5 D cs ad (MQ below (xQ D cs ad none w') args s 0 0 (xF ad)) 20 [(0, .ref (ad 12 0)), (1, .int b1)] [] w) (b1 : Int32) (b2 : Int32) (w : Wd), X7_oneMore_L2 fuel k20 b1 b2 w = some w' → XV p l e { frames := 3, cells := 0, slots := 0, locals := 69 } s m args below meth c 5 D cs ad (MQ below (xQ D cs ad none w') args s 0 0 (xF ad)) 2 [(0, .ref (ad 12 0)), (1, .int b1), (2, .int b2)] [] w := by
    intro fuel
    induction fuel with
    | zero => intro k20 hk20 b1 b2 w hm; cases hm
    | succ fuel ih =>
      intro k20 hk20 b1 b2 w hm
      rw [X7_oneMore_L2] at hm
      refine x_iload_n E dX7_oneMore_2 rfl 2 rfl ?_
      refine x_iconst (v := (iI 5)) E dX7_oneMore_3 (by decide) ?_
      refine x_icmp_ge (tgt := 20) E dX7_oneMore_4 (by decide) hm (fun _ hm => ?_) (fun _ hm => ?_)
      · exact x_weak [0, 1] rfl (hk20 b1 w hm)
      · refine x_aload_n E dX7_oneMore_7 rfl 0 rfl ?_
        refine x_gf (v := .ref (ad 12 14)) E fr_X7_54 rfl rfl dX7_oneMore_8 ?_
        refine x_iload_n E dX7_oneMore_11 rfl 2 rfl ?_
        refine x_iconst (v := (iI 0)) E dX7_oneMore_12 (by decide) ?_
        refine x_iast E rfl rfl (by decide) dX7_oneMore_13 hm (fun w_1 hm => ?_)
        refine x_iincB (lv' := fun x_2 => [(2, .int x_2), (0, .ref (ad 12 0)), (1, .int b1)]) (j := 2) E dX7_oneMore_14 rfl rfl (by decide) (fun _ => rfl) hm (fun x_2 hm => ?_)
        refine x_goto (tgt := 2) E dX7_oneMore_17 (by decide) ?_
        exact x_weak [1, 2, 0] rfl ((ih _ hk20) b1 x_2 w_1 hm)
  have hL29 : ∀ (fuel : Nat) (k81 : Int32 → Int32 → Wd → Option Wd) (hk81 : ∀ (b1 : Int32) (b2 : Int32) (w : Wd), k81 b1 b2 w = some w' → XV p l e { frames := 3, cells := 0, slots := 0, locals := 69 } s m args below meth c 5 D cs ad (MQ below (xQ D cs ad none w') args s 0 0 (xF ad)) 81 [(0, .ref (ad 12 0)), (1, .int b1), (2, .int b2)] [] w) (b1 : Int32) (b2 : Int32) (b3 : Int32) (w : Wd), X7_oneMore_L29 fuel k81 b1 b2 b3 w = some w' → XV p l e { frames := 3, cells := 0, slots := 0, locals := 69 } s m args below meth c 5 D cs ad (MQ below (xQ D cs ad none w') args s 0 0 (xF ad)) 29 [(0, .ref (ad 12 0)), (1, .int b1), (2, .int b2), (3, .int b3)] [] w := by
    intro fuel
    induction fuel with
    | zero => intro k81 hk81 b1 b2 b3 w hm; cases hm
    | succ fuel ih =>
      intro k81 hk81 b1 b2 b3 w hm
      rw [X7_oneMore_L29] at hm
      refine x_iload_n E dX7_oneMore_29 rfl 3 rfl ?_
      refine x_bipush (v := (iI 8)) E dX7_oneMore_30 (by decide) ?_
      refine x_icmp_ge (tgt := 81) E dX7_oneMore_32 (by decide) hm (fun _ hm => ?_) (fun _ hm => ?_)
      · exact x_weak [0, 1, 2] rfl (hk81 b1 b2 w hm)
      · refine x_aload_n E dX7_oneMore_35 rfl 0 rfl ?_
        refine x_gf (v := .ref (ad 12 13)) E fr_X7_51 rfl rfl dX7_oneMore_36 ?_
        refine x_iload_n E dX7_oneMore_39 rfl 2 rfl ?_
        refine x_iald E rfl rfl (by decide) dX7_oneMore_40 hm (fun x_3 hm => ?_)
        refine x_if_le (tgt := 81) E dX7_oneMore_41 (by decide) hm (fun _ hm => ?_) (fun _ hm => ?_)
        · exact x_weak [0, 1, 2] rfl (hk81 b1 b2 w hm)
        · refine x_aload_n E dX7_oneMore_44 rfl 0 rfl ?_
          refine x_iload_n E dX7_oneMore_45 rfl 1 rfl ?_
          refine x_iload_n E dX7_oneMore_46 rfl 2 rfl ?_
          refine x_iload_n E dX7_oneMore_47 rfl 3 rfl ?_
          obtain ⟨r_4, w_5, hc, hm⟩ := bI_inv hm
          refine x_callV (As := [.int b1, .int b2, .int b3]) (rest := []) E my_X7_step wG926 (c_X7_step l D cs ad hc) rfl rfl rfl ⟨Nat.le_of_ble_eq_true rfl, Nat.le_of_ble_eq_true rfl⟩ (Nat.le_of_ble_eq_true rfl) dX7_oneMore_48 ?_
          refine x_istore (lv' := [(4, .int r_4), (0, .ref (ad 12 0)), (1, .int b1), (2, .int b2), (3, .int b3)]) E dX7_oneMore_51 (by decide) rfl ?_
          refine x_iload E dX7_oneMore_53 0 rfl ?_
          refine x_iconst (v := (iI (-1))) E dX7_oneMore_55 (by decide) ?_
          refine x_icmp_eq (tgt := 75) E dX7_oneMore_56 (by decide) hm (fun _ hm => ?_) (fun _ hm => ?_)
          · refine x_iincB (lv' := fun x_6 => [(3, .int x_6), (4, .int r_4), (0, .ref (ad 12 0)), (1, .int b1), (2, .int b2)]) (j := 4) E dX7_oneMore_75 rfl rfl (by decide) (fun _ => rfl) hm (fun x_6 hm => ?_)
            refine x_goto (tgt := 29) E dX7_oneMore_78 (by decide) ?_
            exact x_weak [2, 3, 4, 0] rfl ((ih _ hk81) b1 b2 x_6 w_5 hm)
          · refine x_aload_n E dX7_oneMore_59 rfl 1 rfl ?_
            refine x_gf (v := .ref (ad 12 14)) E fr_X7_54 rfl rfl dX7_oneMore_60 ?_
            refine x_iload E dX7_oneMore_63 0 rfl ?_
            refine x_dup2 E dX7_oneMore_65 rfl rfl ?_
            refine x_iald E rfl rfl (by decide) dX7_oneMore_66 hm (fun x_7 hm => ?_)
            refine x_aload_n E dX7_oneMore_67 rfl 1 rfl ?_
            refine x_gf (v := .ref (ad 12 13)) E fr_X7_51 rfl rfl dX7_oneMore_68 ?_
            refine x_iload_n E dX7_oneMore_71 rfl 3 rfl ?_
            refine x_iald E rfl rfl (by decide) dX7_oneMore_72 hm (fun x_8 hm => ?_)
            refine x_iadd E dX7_oneMore_73 ?_
            refine x_iast E rfl rfl (by decide) dX7_oneMore_74 hm (fun w_9 hm => ?_)
            refine x_iincB (lv' := fun x_10 => [(3, .int x_10), (4, .int r_4), (0, .ref (ad 12 0)), (1, .int b1), (2, .int b2)]) (j := 4) E dX7_oneMore_75 rfl rfl (by decide) (fun _ => rfl) hm (fun x_10 hm => ?_)
            refine x_goto (tgt := 29) E dX7_oneMore_78 (by decide) ?_
            exact x_weak [2, 3, 4, 0] rfl ((ih _ hk81) b1 b2 x_10 w_9 hm)
  have hL81 : ∀ (k22 : Int32 → Int32 → Wd → Option Wd) (hk22 : ∀ (b1 : Int32) (b2 : Int32) (w : Wd), k22 b1 b2 w = some w' → XV p l e { frames := 3, cells := 0, slots := 0, locals := 69 } s m args below meth c 5 D cs ad (MQ below (xQ D cs ad none w') args s 0 0 (xF ad)) 22 [(0, .ref (ad 12 0)), (1, .int b1), (2, .int b2)] [] w) (b1 : Int32) (b2 : Int32) (w : Wd), X7_oneMore_L81 k22 b1 b2 w = some w' → XV p l e { frames := 3, cells := 0, slots := 0, locals := 69 } s m args below meth c 5 D cs ad (MQ below (xQ D cs ad none w') args s 0 0 (xF ad)) 81 [(0, .ref (ad 12 0)), (1, .int b1), (2, .int b2)] [] w := by
    intro k22 hk22 b1 b2 w hm
    unfold X7_oneMore_L81 at hm
    refine x_iincB (lv' := fun x_11 => [(2, .int x_11), (0, .ref (ad 12 0)), (1, .int b1)]) (j := 2) E dX7_oneMore_81 rfl rfl (by decide) (fun _ => rfl) hm (fun x_11 hm => ?_)
    refine x_goto (tgt := 22) E dX7_oneMore_84 (by decide) ?_
    exact x_weak [1, 2, 0] rfl (hk22 b1 x_11 w hm)
  have hL22 : ∀ (fuel : Nat) (k87 : Wd → Option Wd) (hk87 : ∀ (w : Wd), k87 w = some w' → XV p l e { frames := 3, cells := 0, slots := 0, locals := 69 } s m args below meth c 5 D cs ad (MQ below (xQ D cs ad none w') args s 0 0 (xF ad)) 87 [(0, .ref (ad 12 0))] [] w) (b1 : Int32) (b2 : Int32) (w : Wd), X7_oneMore_L22 fuel k87 b1 b2 w = some w' → XV p l e { frames := 3, cells := 0, slots := 0, locals := 69 } s m args below meth c 5 D cs ad (MQ below (xQ D cs ad none w') args s 0 0 (xF ad)) 22 [(0, .ref (ad 12 0)), (1, .int b1), (2, .int b2)] [] w := by
    intro fuel
    induction fuel with
    | zero => intro k87 hk87 b1 b2 w hm; cases hm
    | succ fuel ih =>
      intro k87 hk87 b1 b2 w hm
      rw [X7_oneMore_L22] at hm
      refine x_iload_n E dX7_oneMore_22 rfl 2 rfl ?_
      refine x_iconst (v := (iI 5)) E dX7_oneMore_23 (by decide) ?_
      refine x_icmp_ge (tgt := 87) E dX7_oneMore_24 (by decide) hm (fun _ hm => ?_) (fun _ hm => ?_)
      · exact x_weak [0] rfl (hk87 w hm)
      · refine x_iconst (v := (iI 0)) E dX7_oneMore_27 (by decide) ?_
        refine x_istore_n (lv' := [(3, .int (iI 0)), (0, .ref (ad 12 0)), (1, .int b1), (2, .int b2)]) E dX7_oneMore_28 rfl (by decide) rfl ?_
        exact x_weak [1, 2, 3, 0] rfl ((hL29 1000 _ (hL81 _ (ih _ hk87))) b1 b2 (iI 0) w hm)
  have hL89 : ∀ (fuel : Nat) (b2 : Int32) (w : Wd), X7_oneMore_L89 fuel b2 w = some w' → XV p l e { frames := 3, cells := 0, slots := 0, locals := 69 } s m args below meth c 5 D cs ad (MQ below (xQ D cs ad none w') args s 0 0 (xF ad)) 89 [(0, .ref (ad 12 0)), (2, .int b2)] [] w := by
    intro fuel
    induction fuel with
    | zero => intro b2 w hm; cases hm
    | succ fuel ih =>
      intro b2 w hm
      rw [X7_oneMore_L89] at hm
      refine x_iload_n E dX7_oneMore_89 rfl 1 rfl ?_
      refine x_iconst (v := (iI 5)) E dX7_oneMore_90 (by decide) ?_
      refine x_icmp_ge (tgt := 112) E dX7_oneMore_91 (by decide) hm (fun _ hm => ?_) (fun _ hm => ?_)
      · exact x_vretS E hm dX7_oneMore_112
      · refine x_aload_n E dX7_oneMore_94 rfl 0 rfl ?_
        refine x_gf (v := .ref (ad 12 13)) E fr_X7_51 rfl rfl dX7_oneMore_95 ?_
        refine x_iload_n E dX7_oneMore_98 rfl 1 rfl ?_
        refine x_aload_n E dX7_oneMore_99 rfl 0 rfl ?_
        refine x_gf (v := .ref (ad 12 14)) E fr_X7_54 rfl rfl dX7_oneMore_100 ?_
        refine x_iload_n E dX7_oneMore_103 rfl 1 rfl ?_
        refine x_iald E rfl rfl (by decide) dX7_oneMore_104 hm (fun x_12 hm => ?_)
        refine x_iast E rfl rfl (by decide) dX7_oneMore_105 hm (fun w_13 hm => ?_)
        refine x_iincB (lv' := fun x_14 => [(2, .int x_14), (0, .ref (ad 12 0))]) (j := 1) E dX7_oneMore_106 rfl rfl (by decide) (fun _ => rfl) hm (fun x_14 hm => ?_)
        refine x_goto (tgt := 89) E dX7_oneMore_109 (by decide) ?_
        exact x_weak [1, 0] rfl ((ih) x_14 w_13 hm)
  have hL87 : ∀ (w : Wd), X7_oneMore_L87 w = some w' → XV p l e { frames := 3, cells := 0, slots := 0, locals := 69 } s m args below meth c 5 D cs ad (MQ below (xQ D cs ad none w') args s 0 0 (xF ad)) 87 [(0, .ref (ad 12 0))] [] w := by
    intro w hm
    unfold X7_oneMore_L87 at hm
    refine x_iconst (v := (iI 0)) E dX7_oneMore_87 (by decide) ?_
    refine x_istore_n (lv' := [(2, .int (iI 0)), (0, .ref (ad 12 0))]) E dX7_oneMore_88 rfl (by decide) rfl ?_
    exact x_weak [1, 0] rfl ((hL89 1000) (iI 0) w hm)
  have hL20 : ∀ (b1 : Int32) (w : Wd), X7_oneMore_L20 b1 w = some w' → XV p l e { frames := 3, cells := 0, slots := 0, locals := 69 } s m args below meth c 5 D cs ad (MQ below (xQ D cs ad none w') args s 0 0 (xF ad)) 20 [(0, .ref (ad 12 0)), (1, .int b1)] [] w := by
    intro b1 w hm
    unfold X7_oneMore_L20 at hm
    refine x_iconst (v := (iI 0)) E dX7_oneMore_20 (by decide) ?_
    refine x_istore_n (lv' := [(2, .int (iI 0)), (0, .ref (ad 12 0)), (1, .int b1)]) E dX7_oneMore_21 rfl (by decide) rfl ?_
    exact x_weak [1, 2, 0] rfl ((hL22 1000 _ (hL87)) b1 (iI 0) w hm)
  unfold X7_oneMore at hm
  refine x_iconst (v := (iI 0)) E dX7_oneMore_0 (by decide) ?_
  refine x_istore_n (lv' := [(2, .int (iI 0)), (0, .ref (ad 12 0)), (1, .int a1)]) E dX7_oneMore_1 rfl (by decide) rfl ?_
  exact x_weak [1, 2, 0] rfl ((hL2 1000 _ (hL20)) a1 (iI 0) w hm)
set_option maxRecDepth 100000 in
set_option maxHeartbeats 4000000 in
theorem c_X7_rowsNow (l : Launch) (D : va_G) (cs : vCs) (ad : Nat → Nat → Nat) {w : Wd} {a1 : Int32} {a2 : Int32} {r : Int32} {w' : Wd} (hm : X7_rowsNow w a1 a2 = some (r, w')) : Mc l yX7_rowsNow cX7_rowsNow 4 (some .int) 4 93 D cs ad [.ref (ad 12 0), .int a1, .int a2] w (some (.int r)) w' := by
  refine Mc.of (by decide) (Nat.le_of_ble_eq_true rfl) ?_
  intro p e s m args below meth c E
  replace E : EV p m c cX7_rowsNow 4 s args RX7 yX7_rowsNow (some .int) meth D cs ad := E
  have hL2 : ∀ (fuel : Nat) (k28 : Int32 → Int32 → Wd → Option (Int32 × Wd)) (hk28 : ∀ (b1 : Int32) (b2 : Int32) (w : Wd), k28 b1 b2 w = some (r, w') → XV p l e { frames := 4, cells := 0, slots := 0, locals := 93 } s m args below meth c 4 D cs ad (MQ below (xQ D cs ad (some (.int r)) w') args s 0 0 (xF ad)) 28 [(0, .ref (ad 12 0)), (1, .int b1), (2, .int b2)] [] w) (b1 : Int32) (b2 : Int32) (b3 : Int32) (w : Wd), X7_rowsNow_L2 fuel k28 b1 b2 b3 w = some (r, w') → XV p l e { frames := 4, cells := 0, slots := 0, locals := 93 } s m args below meth c 4 D cs ad (MQ below (xQ D cs ad (some (.int r)) w') args s 0 0 (xF ad)) 2 [(0, .ref (ad 12 0)), (1, .int b1), (2, .int b2), (3, .int b3)] [] w := by
    intro fuel
    induction fuel with
    | zero => intro k28 hk28 b1 b2 b3 w hm; cases hm
    | succ fuel ih =>
      intro k28 hk28 b1 b2 b3 w hm
      rw [X7_rowsNow_L2] at hm
      refine x_iload_n E dX7_rowsNow_2 rfl 3 rfl ?_
      refine x_iconst (v := (iI 5)) E dX7_rowsNow_3 (by decide) ?_
      refine x_icmp_ge (tgt := 28) E dX7_rowsNow_4 (by decide) hm (fun _ hm => ?_) (fun _ hm => ?_)
      · exact x_weak [0, 1, 2] rfl (hk28 b1 b2 w hm)
      · refine x_aload_n E dX7_rowsNow_7 rfl 0 rfl ?_
        refine x_gf (v := .ref (ad 12 13)) E fr_X7_51 rfl rfl dX7_rowsNow_8 ?_
        refine x_iload_n E dX7_rowsNow_11 rfl 3 rfl ?_
        refine x_iload_n E dX7_rowsNow_12 rfl 3 rfl ?_
        refine x_if_ne (tgt := 20) E dX7_rowsNow_13 (by decide) hm (fun _ hm => ?_) (fun _ hm => ?_)
        · refine x_iconst (v := (iI 0)) E dX7_rowsNow_20 (by decide) ?_
          refine x_iast E rfl rfl (by decide) dX7_rowsNow_21 hm (fun w_1 hm => ?_)
          refine x_iincB (lv' := fun x_2 => [(3, .int x_2), (0, .ref (ad 12 0)), (1, .int b1), (2, .int b2)]) (j := 3) E dX7_rowsNow_22 rfl rfl (by decide) (fun _ => rfl) hm (fun x_2 hm => ?_)
          refine x_goto (tgt := 2) E dX7_rowsNow_25 (by decide) ?_
          exact x_weak [1, 2, 3, 0] rfl ((ih _ hk28) b1 b2 x_2 w_1 hm)
        · refine x_iconst (v := (iI 1)) E dX7_rowsNow_16 (by decide) ?_
          refine x_goto (tgt := 21) E dX7_rowsNow_17 (by decide) ?_
          refine x_iast E rfl rfl (by decide) dX7_rowsNow_21 hm (fun w_3 hm => ?_)
          refine x_iincB (lv' := fun x_4 => [(3, .int x_4), (0, .ref (ad 12 0)), (1, .int b1), (2, .int b2)]) (j := 3) E dX7_rowsNow_22 rfl rfl (by decide) (fun _ => rfl) hm (fun x_4 hm => ?_)
          refine x_goto (tgt := 2) E dX7_rowsNow_25 (by decide) ?_
          exact x_weak [1, 2, 3, 0] rfl ((ih _ hk28) b1 b2 x_4 w_3 hm)
  have hL30 : ∀ (fuel : Nat) (b1 : Int32) (b2 : Int32) (b3 : Int32) (w : Wd), X7_rowsNow_L30 fuel b1 b2 b3 w = some (r, w') → XV p l e { frames := 4, cells := 0, slots := 0, locals := 93 } s m args below meth c 4 D cs ad (MQ below (xQ D cs ad (some (.int r)) w') args s 0 0 (xF ad)) 30 [(0, .ref (ad 12 0)), (1, .int b1), (2, .int b2), (3, .int b3)] [] w := by
    intro fuel
    induction fuel with
    | zero => intro b1 b2 b3 w hm; cases hm
    | succ fuel ih =>
      intro b1 b2 b3 w hm
      rw [X7_rowsNow_L30] at hm
      refine x_iload_n E dX7_rowsNow_30 rfl 3 rfl ?_
      refine x_iload_n E dX7_rowsNow_31 rfl 2 rfl ?_
      refine x_icmp_ge (tgt := 46) E dX7_rowsNow_32 (by decide) hm (fun _ hm => ?_) (fun _ hm => ?_)
      · refine x_aload_n E dX7_rowsNow_46 rfl 0 rfl ?_
        refine x_gf (v := .ref (ad 12 13)) E fr_X7_51 rfl rfl dX7_rowsNow_47 ?_
        refine x_iconst (v := (iI 0)) E dX7_rowsNow_50 (by decide) ?_
        refine x_iald E rfl rfl (by decide) dX7_rowsNow_51 hm (fun x_5 hm => ?_)
        exact x_iretS E hm dX7_rowsNow_52
      · refine x_aload_n E dX7_rowsNow_35 rfl 0 rfl ?_
        refine x_iload_n E dX7_rowsNow_36 rfl 1 rfl ?_
        obtain ⟨w_6, hc, hm⟩ := ob_inv hm
        refine x_callV (As := [.int b1]) (rest := []) E my_X7_oneMore wG1049 (c_X7_oneMore l D cs ad hc) rfl rfl rfl ⟨Nat.le_of_ble_eq_true rfl, Nat.le_of_ble_eq_true rfl⟩ (Nat.le_of_ble_eq_true rfl) dX7_rowsNow_37 ?_
        refine x_iincB (lv' := fun x_7 => [(3, .int x_7), (0, .ref (ad 12 0)), (1, .int b1), (2, .int b2)]) (j := 3) E dX7_rowsNow_40 rfl rfl (by decide) (fun _ => rfl) hm (fun x_7 hm => ?_)
        refine x_goto (tgt := 30) E dX7_rowsNow_43 (by decide) ?_
        exact x_weak [1, 2, 3, 0] rfl ((ih) b1 b2 x_7 w_6 hm)
  have hL28 : ∀ (b1 : Int32) (b2 : Int32) (w : Wd), X7_rowsNow_L28 b1 b2 w = some (r, w') → XV p l e { frames := 4, cells := 0, slots := 0, locals := 93 } s m args below meth c 4 D cs ad (MQ below (xQ D cs ad (some (.int r)) w') args s 0 0 (xF ad)) 28 [(0, .ref (ad 12 0)), (1, .int b1), (2, .int b2)] [] w := by
    intro b1 b2 w hm
    unfold X7_rowsNow_L28 at hm
    refine x_iconst (v := (iI 0)) E dX7_rowsNow_28 (by decide) ?_
    refine x_istore_n (lv' := [(3, .int (iI 0)), (0, .ref (ad 12 0)), (1, .int b1), (2, .int b2)]) E dX7_rowsNow_29 rfl (by decide) rfl ?_
    exact x_weak [1, 2, 3, 0] rfl ((hL30 1000) b1 b2 (iI 0) w hm)
  unfold X7_rowsNow at hm
  refine x_iconst (v := (iI 0)) E dX7_rowsNow_0 (by decide) ?_
  refine x_istore_n (lv' := [(3, .int (iI 0)), (0, .ref (ad 12 0)), (1, .int a1), (2, .int a2)]) E dX7_rowsNow_1 rfl (by decide) rfl ?_
  exact x_weak [1, 2, 3, 0] rfl ((hL2 1000 _ (hL28)) a1 a2 (iI 0) w hm)
set_option maxRecDepth 100000 in
set_option maxHeartbeats 4000000 in
theorem c_X7_mixCode (l : Launch) (D : va_G) (cs : vCs) (ad : Nat → Nat → Nat) {w : Wd} {a1 : Int32} {w' : Wd} (hm : X7_mixCode w a1 = some w') : Mc l yX7_mixCode cX7_mixCode 3 none 10 227 D cs ad [.ref (ad 12 0), .int a1] w none w' := by
  refine Mc.of (by decide) (Nat.le_of_ble_eq_true rfl) ?_
  intro p e s m args below meth c E
  replace E : EV p m c cX7_mixCode 3 s args RX7 yX7_mixCode none meth D cs ad := E
  have hL2 : ∀ (fuel : Nat) (k32 : Int32 → Wd → Option Wd) (hk32 : ∀ (b1 : Int32) (w : Wd), k32 b1 w = some w' → XV p l e { frames := 10, cells := 0, slots := 0, locals := 227 } s m args below meth c 3 D cs ad (MQ below (xQ D cs ad none w') args s 0 0 (xF ad)) 32 [(0, .ref (ad 12 0)), (1, .int b1)] [] w) (b1 : Int32) (b2 : Int32) (w : Wd), X7_mixCode_L2 fuel k32 b1 b2 w = some w' → XV p l e { frames := 10, cells := 0, slots := 0, locals := 227 } s m args below meth c 3 D cs ad (MQ below (xQ D cs ad none w') args s 0 0 (xF ad)) 2 [(0, .ref (ad 12 0)), (1, .int b1), (2, .int b2)] [] w := by
    intro fuel
    induction fuel with
    | zero => intro k32 hk32 b1 b2 w hm; cases hm
    | succ fuel ih =>
      intro k32 hk32 b1 b2 w hm
      rw [X7_mixCode_L2] at hm
      refine x_iload_n E dX7_mixCode_2 rfl 2 rfl ?_
      refine x_aload_n E dX7_mixCode_3 rfl 0 rfl ?_
      refine x_gf (v := .ref (ad 12 1)) E fr_X7_7 rfl rfl dX7_mixCode_4 ?_
      refine x_iload_n E dX7_mixCode_7 rfl 1 rfl ?_
      refine x_iald E rfl rfl (by decide) dX7_mixCode_8 hm (fun x_1 hm => ?_)
      refine x_callS (As := [.int x_1]) (rest := [.int b2]) E my_X7_lettersOf wG849 (c_X7_lettersOf l D cs ad rfl) rfl ⟨Nat.le_of_ble_eq_true rfl, Nat.le_of_ble_eq_true rfl⟩ (Nat.le_of_ble_eq_true rfl) dX7_mixCode_9 ?_
      refine x_icmp_ge (tgt := 32) E dX7_mixCode_12 (by decide) hm (fun _ hm => ?_) (fun _ hm => ?_)
      · exact x_weak [0, 1] rfl (hk32 b1 w hm)
      · refine x_aload_n E dX7_mixCode_15 rfl 0 rfl ?_
        refine x_aload_n E dX7_mixCode_16 rfl 0 rfl ?_
        refine x_iload_n E dX7_mixCode_17 rfl 1 rfl ?_
        refine x_iload_n E dX7_mixCode_18 rfl 2 rfl ?_
        obtain ⟨r_2, hc, hm⟩ := ob_inv hm
        refine x_callV (As := [.int b1, .int b2]) (rest := [.ref (ad 12 0)]) E my_X7_inkNow wG868 (c_X7_inkNow l D cs ad hc) rfl rfl rfl ⟨Nat.le_of_ble_eq_true rfl, Nat.le_of_ble_eq_true rfl⟩ (Nat.le_of_ble_eq_true rfl) dX7_mixCode_19 ?_
        refine x_i2l E dX7_mixCode_22 ?_
        obtain ⟨w_3, hc, hm⟩ := ob_inv hm
        refine x_callV (As := [.long (r_2.toInt64)]) (rest := []) E my_X7_mix wG1138 (c_X7_mix l D cs ad hc) rfl rfl rfl ⟨Nat.le_of_ble_eq_true rfl, Nat.le_of_ble_eq_true rfl⟩ (Nat.le_of_ble_eq_true rfl) dX7_mixCode_23 ?_
        refine x_iincB (lv' := fun x_4 => [(2, .int x_4), (0, .ref (ad 12 0)), (1, .int b1)]) (j := 2) E dX7_mixCode_26 rfl rfl (by decide) (fun _ => rfl) hm (fun x_4 hm => ?_)
        refine x_goto (tgt := 2) E dX7_mixCode_29 (by decide) ?_
        exact x_weak [1, 2, 0] rfl ((ih _ hk32) b1 x_4 w_3 hm)
  have hL34 : ∀ (fuel : Nat) (k57 : Int32 → Wd → Option Wd) (hk57 : ∀ (b1 : Int32) (w : Wd), k57 b1 w = some w' → XV p l e { frames := 10, cells := 0, slots := 0, locals := 227 } s m args below meth c 3 D cs ad (MQ below (xQ D cs ad none w') args s 0 0 (xF ad)) 57 [(0, .ref (ad 12 0)), (1, .int b1)] [] w) (b1 : Int32) (b2 : Int32) (w : Wd), X7_mixCode_L34 fuel k57 b1 b2 w = some w' → XV p l e { frames := 10, cells := 0, slots := 0, locals := 227 } s m args below meth c 3 D cs ad (MQ below (xQ D cs ad none w') args s 0 0 (xF ad)) 34 [(0, .ref (ad 12 0)), (1, .int b1), (2, .int b2)] [] w := by
    intro fuel
    induction fuel with
    | zero => intro k57 hk57 b1 b2 w hm; cases hm
    | succ fuel ih =>
      intro k57 hk57 b1 b2 w hm
      rw [X7_mixCode_L34] at hm
      refine x_iload_n E dX7_mixCode_34 rfl 2 rfl ?_
      refine x_bipush (v := (iI 8)) E dX7_mixCode_35 (by decide) ?_
      refine x_icmp_ge (tgt := 57) E dX7_mixCode_37 (by decide) hm (fun _ hm => ?_) (fun _ hm => ?_)
      · exact x_weak [0, 1] rfl (hk57 b1 w hm)
      · refine x_aload_n E dX7_mixCode_40 rfl 0 rfl ?_
        refine x_aload_n E dX7_mixCode_41 rfl 0 rfl ?_
        refine x_iload_n E dX7_mixCode_42 rfl 1 rfl ?_
        refine x_iload_n E dX7_mixCode_43 rfl 2 rfl ?_
        obtain ⟨r_5, w_6, hc, hm⟩ := bI_inv hm
        refine x_callV (As := [.int b1, .int b2]) (rest := [.ref (ad 12 0)]) E my_X7_aboutNow wG906 (c_X7_aboutNow l D cs ad hc) rfl rfl rfl ⟨Nat.le_of_ble_eq_true rfl, Nat.le_of_ble_eq_true rfl⟩ (Nat.le_of_ble_eq_true rfl) dX7_mixCode_44 ?_
        refine x_i2l E dX7_mixCode_47 ?_
        obtain ⟨w_7, hc, hm⟩ := ob_inv hm
        refine x_callV (As := [.long (r_5.toInt64)]) (rest := []) E my_X7_mix wG1138 (c_X7_mix l D cs ad hc) rfl rfl rfl ⟨Nat.le_of_ble_eq_true rfl, Nat.le_of_ble_eq_true rfl⟩ (Nat.le_of_ble_eq_true rfl) dX7_mixCode_48 ?_
        refine x_iincB (lv' := fun x_8 => [(2, .int x_8), (0, .ref (ad 12 0)), (1, .int b1)]) (j := 2) E dX7_mixCode_51 rfl rfl (by decide) (fun _ => rfl) hm (fun x_8 hm => ?_)
        refine x_goto (tgt := 34) E dX7_mixCode_54 (by decide) ?_
        exact x_weak [1, 2, 0] rfl ((ih _ hk57) b1 x_8 w_7 hm)
  have hL59 : ∀ (fuel : Nat) (k81 : Int32 → Wd → Option Wd) (hk81 : ∀ (b1 : Int32) (w : Wd), k81 b1 w = some w' → XV p l e { frames := 10, cells := 0, slots := 0, locals := 227 } s m args below meth c 3 D cs ad (MQ below (xQ D cs ad none w') args s 0 0 (xF ad)) 81 [(0, .ref (ad 12 0)), (1, .int b1)] [] w) (b1 : Int32) (b2 : Int32) (w : Wd), X7_mixCode_L59 fuel k81 b1 b2 w = some w' → XV p l e { frames := 10, cells := 0, slots := 0, locals := 227 } s m args below meth c 3 D cs ad (MQ below (xQ D cs ad none w') args s 0 0 (xF ad)) 59 [(0, .ref (ad 12 0)), (1, .int b1), (2, .int b2)] [] w := by
    intro fuel
    induction fuel with
    | zero => intro k81 hk81 b1 b2 w hm; cases hm
    | succ fuel ih =>
      intro k81 hk81 b1 b2 w hm
      rw [X7_mixCode_L59] at hm
      refine x_iload_n E dX7_mixCode_59 rfl 2 rfl ?_
      refine x_iconst (v := (iI 4)) E dX7_mixCode_60 (by decide) ?_
      refine x_icmp_ge (tgt := 81) E dX7_mixCode_61 (by decide) hm (fun _ hm => ?_) (fun _ hm => ?_)
      · exact x_weak [0, 1] rfl (hk81 b1 w hm)
      · refine x_aload_n E dX7_mixCode_64 rfl 0 rfl ?_
        refine x_aload_n E dX7_mixCode_65 rfl 0 rfl ?_
        refine x_iload_n E dX7_mixCode_66 rfl 1 rfl ?_
        refine x_iload_n E dX7_mixCode_67 rfl 2 rfl ?_
        obtain ⟨r_9, w_10, hc, hm⟩ := bI_inv hm
        refine x_callV (As := [.int b1, .int b2]) (rest := [.ref (ad 12 0)]) E my_X7_pairsOf wG1025 (c_X7_pairsOf l D cs ad hc) rfl rfl rfl ⟨Nat.le_of_ble_eq_true rfl, Nat.le_of_ble_eq_true rfl⟩ (Nat.le_of_ble_eq_true rfl) dX7_mixCode_68 ?_
        refine x_i2l E dX7_mixCode_71 ?_
        obtain ⟨w_11, hc, hm⟩ := ob_inv hm
        refine x_callV (As := [.long (r_9.toInt64)]) (rest := []) E my_X7_mix wG1138 (c_X7_mix l D cs ad hc) rfl rfl rfl ⟨Nat.le_of_ble_eq_true rfl, Nat.le_of_ble_eq_true rfl⟩ (Nat.le_of_ble_eq_true rfl) dX7_mixCode_72 ?_
        refine x_iincB (lv' := fun x_12 => [(2, .int x_12), (0, .ref (ad 12 0)), (1, .int b1)]) (j := 2) E dX7_mixCode_75 rfl rfl (by decide) (fun _ => rfl) hm (fun x_12 hm => ?_)
        refine x_goto (tgt := 59) E dX7_mixCode_78 (by decide) ?_
        exact x_weak [1, 2, 0] rfl ((ih _ hk81) b1 x_12 w_11 hm)
  have hL94 : ∀ (fuel : Nat) (b1 : Int32) (b2 : Int32) (w : Wd), X7_mixCode_L94 fuel b1 b2 w = some w' → XV p l e { frames := 10, cells := 0, slots := 0, locals := 227 } s m args below meth c 3 D cs ad (MQ below (xQ D cs ad none w') args s 0 0 (xF ad)) 94 [(0, .ref (ad 12 0)), (1, .int b1), (2, .int b2)] [] w := by
    intro fuel
    induction fuel with
    | zero => intro b1 b2 w hm; cases hm
    | succ fuel ih =>
      intro b1 b2 w hm
      rw [X7_mixCode_L94] at hm
      refine x_iload_n E dX7_mixCode_94 rfl 2 rfl ?_
      refine x_aload_n E dX7_mixCode_95 rfl 0 rfl ?_
      refine x_gf (v := .int (rd w 12 0 0)) E fr_X7_110 rfl rfl dX7_mixCode_96 ?_
      refine x_icmp_ge (tgt := 119) E dX7_mixCode_99 (by decide) hm (fun _ hm => ?_) (fun _ hm => ?_)
      · exact x_vretS E hm dX7_mixCode_119
      · refine x_aload_n E dX7_mixCode_102 rfl 0 rfl ?_
        refine x_aload_n E dX7_mixCode_103 rfl 0 rfl ?_
        refine x_iload_n E dX7_mixCode_104 rfl 1 rfl ?_
        refine x_iload_n E dX7_mixCode_105 rfl 2 rfl ?_
        obtain ⟨r_16, w_17, hc, hm⟩ := bI_inv hm
        refine x_callV (As := [.int b1, .int b2]) (rest := [.ref (ad 12 0)]) E my_X7_apartNow wG1057 (c_X7_apartNow l D cs ad hc) rfl rfl rfl ⟨Nat.le_of_ble_eq_true rfl, Nat.le_of_ble_eq_true rfl⟩ (Nat.le_of_ble_eq_true rfl) dX7_mixCode_106 ?_
        refine x_i2l E dX7_mixCode_109 ?_
        obtain ⟨w_18, hc, hm⟩ := ob_inv hm
        refine x_callV (As := [.long (r_16.toInt64)]) (rest := []) E my_X7_mix wG1138 (c_X7_mix l D cs ad hc) rfl rfl rfl ⟨Nat.le_of_ble_eq_true rfl, Nat.le_of_ble_eq_true rfl⟩ (Nat.le_of_ble_eq_true rfl) dX7_mixCode_110 ?_
        refine x_iincB (lv' := fun x_19 => [(2, .int x_19), (0, .ref (ad 12 0)), (1, .int b1)]) (j := 2) E dX7_mixCode_113 rfl rfl (by decide) (fun _ => rfl) hm (fun x_19 hm => ?_)
        refine x_goto (tgt := 94) E dX7_mixCode_116 (by decide) ?_
        exact x_weak [1, 2, 0] rfl ((ih) b1 x_19 w_18 hm)
  have hL81 : ∀ (b1 : Int32) (w : Wd), X7_mixCode_L81 b1 w = some w' → XV p l e { frames := 10, cells := 0, slots := 0, locals := 227 } s m args below meth c 3 D cs ad (MQ below (xQ D cs ad none w') args s 0 0 (xF ad)) 81 [(0, .ref (ad 12 0)), (1, .int b1)] [] w := by
    intro b1 w hm
    unfold X7_mixCode_L81 at hm
    refine x_aload_n E dX7_mixCode_81 rfl 0 rfl ?_
    refine x_aload_n E dX7_mixCode_82 rfl 0 rfl ?_
    refine x_iload_n E dX7_mixCode_83 rfl 1 rfl ?_
    refine x_iconst (v := (iI 5)) E dX7_mixCode_84 (by decide) ?_
    obtain ⟨r_13, w_14, hc, hm⟩ := bI_inv hm
    refine x_callV (As := [.int b1, .int (iI 5)]) (rest := [.ref (ad 12 0)]) E my_X7_rowsNow wG1045 (c_X7_rowsNow l D cs ad hc) rfl rfl rfl ⟨Nat.le_of_ble_eq_true rfl, Nat.le_of_ble_eq_true rfl⟩ (Nat.le_of_ble_eq_true rfl) dX7_mixCode_85 ?_
    refine x_i2l E dX7_mixCode_88 ?_
    obtain ⟨w_15, hc, hm⟩ := ob_inv hm
    refine x_callV (As := [.long (r_13.toInt64)]) (rest := []) E my_X7_mix wG1138 (c_X7_mix l D cs ad hc) rfl rfl rfl ⟨Nat.le_of_ble_eq_true rfl, Nat.le_of_ble_eq_true rfl⟩ (Nat.le_of_ble_eq_true rfl) dX7_mixCode_89 ?_
    refine x_iconst (v := (iI 0)) E dX7_mixCode_92 (by decide) ?_
    refine x_istore_n (lv' := [(2, .int (iI 0)), (0, .ref (ad 12 0)), (1, .int b1)]) E dX7_mixCode_93 rfl (by decide) rfl ?_
    exact x_weak [1, 2, 0] rfl ((hL94 1000) b1 (iI 0) w_15 hm)
  have hL57 : ∀ (b1 : Int32) (w : Wd), X7_mixCode_L57 b1 w = some w' → XV p l e { frames := 10, cells := 0, slots := 0, locals := 227 } s m args below meth c 3 D cs ad (MQ below (xQ D cs ad none w') args s 0 0 (xF ad)) 57 [(0, .ref (ad 12 0)), (1, .int b1)] [] w := by
    intro b1 w hm
    unfold X7_mixCode_L57 at hm
    refine x_iconst (v := (iI 0)) E dX7_mixCode_57 (by decide) ?_
    refine x_istore_n (lv' := [(2, .int (iI 0)), (0, .ref (ad 12 0)), (1, .int b1)]) E dX7_mixCode_58 rfl (by decide) rfl ?_
    exact x_weak [1, 2, 0] rfl ((hL59 1000 _ (hL81)) b1 (iI 0) w hm)
  have hL32 : ∀ (b1 : Int32) (w : Wd), X7_mixCode_L32 b1 w = some w' → XV p l e { frames := 10, cells := 0, slots := 0, locals := 227 } s m args below meth c 3 D cs ad (MQ below (xQ D cs ad none w') args s 0 0 (xF ad)) 32 [(0, .ref (ad 12 0)), (1, .int b1)] [] w := by
    intro b1 w hm
    unfold X7_mixCode_L32 at hm
    refine x_iconst (v := (iI 0)) E dX7_mixCode_32 (by decide) ?_
    refine x_istore_n (lv' := [(2, .int (iI 0)), (0, .ref (ad 12 0)), (1, .int b1)]) E dX7_mixCode_33 rfl (by decide) rfl ?_
    exact x_weak [1, 2, 0] rfl ((hL34 1000 _ (hL57)) b1 (iI 0) w hm)
  unfold X7_mixCode at hm
  refine x_iconst (v := (iI 0)) E dX7_mixCode_0 (by decide) ?_
  refine x_istore_n (lv' := [(2, .int (iI 0)), (0, .ref (ad 12 0)), (1, .int a1)]) E dX7_mixCode_1 rfl (by decide) rfl ?_
  exact x_weak [1, 2, 0] rfl ((hL2 1000 _ (hL32)) a1 (iI 0) w hm)
set_option maxRecDepth 100000 in
set_option maxHeartbeats 4000000 in
theorem c_X7_judgedNow (l : Launch) (D : va_G) (cs : vCs) (ad : Nat → Nat → Nat) {w : Wd} {r : Int32} {w' : Wd} (hm : X7_judgedNow w = some (r, w')) : Mc l yX7_judgedNow cX7_judgedNow 4 (some .int) 6 136 D cs ad [.ref (ad 12 0)] w (some (.int r)) w' := by
  refine Mc.of (by decide) (Nat.le_of_ble_eq_true rfl) ?_
  intro p e s m args below meth c E
  replace E : EV p m c cX7_judgedNow 4 s args RX7 yX7_judgedNow (some .int) meth D cs ad := E
  have hL6 : ∀ (fuel : Nat) (b1 : Int32) (b2 : Int32) (b3 : Int32) (w : Wd), X7_judgedNow_L6 fuel b1 b2 b3 w = some (r, w') → XV p l e { frames := 6, cells := 0, slots := 0, locals := 136 } s m args below meth c 4 D cs ad (MQ below (xQ D cs ad (some (.int r)) w') args s 0 0 (xF ad)) 6 [(0, .ref (ad 12 0)), (1, .int b1), (2, .int b2), (3, .int b3)] [] w := by
    intro fuel
    induction fuel with
    | zero => intro b1 b2 b3 w hm; cases hm
    | succ fuel ih =>
      intro b1 b2 b3 w hm
      rw [X7_judgedNow_L6] at hm
      refine x_iload_n E dX7_judgedNow_6 rfl 3 rfl ?_
      refine x_aload_n E dX7_judgedNow_7 rfl 0 rfl ?_
      refine x_gf (v := .int (rd w 12 0 0)) E fr_X7_110 rfl rfl dX7_judgedNow_8 ?_
      refine x_icmp_ge (tgt := 43) E dX7_judgedNow_11 (by decide) hm (fun _ hm => ?_) (fun _ hm => ?_)
      · refine x_iload_n E dX7_judgedNow_43 rfl 1 rfl ?_
        exact x_iretS E hm dX7_judgedNow_44
      · refine x_aload_n E dX7_judgedNow_14 rfl 0 rfl ?_
        refine x_iload_n E dX7_judgedNow_15 rfl 3 rfl ?_
        obtain ⟨r_1, w_2, hc, hm⟩ := bI_inv hm
        refine x_callV (As := [.int b3]) (rest := []) E my_X7_isValid wG942 (c_X7_isValid l D cs ad hc) rfl rfl rfl ⟨Nat.le_of_ble_eq_true rfl, Nat.le_of_ble_eq_true rfl⟩ (Nat.le_of_ble_eq_true rfl) dX7_judgedNow_16 ?_
        refine x_if_eq (tgt := 37) E dX7_judgedNow_19 (by decide) hm (fun _ hm => ?_) (fun _ hm => ?_)
        · refine x_iincB (lv' := fun x_3 => [(3, .int x_3), (0, .ref (ad 12 0)), (1, .int b1), (2, .int b2)]) (j := 3) E dX7_judgedNow_37 rfl rfl (by decide) (fun _ => rfl) hm (fun x_3 hm => ?_)
          refine x_goto (tgt := 6) E dX7_judgedNow_40 (by decide) ?_
          exact x_weak [1, 2, 3, 0] rfl ((ih) b1 b2 x_3 w_2 hm)
        · refine x_aload_n E dX7_judgedNow_22 rfl 0 rfl ?_
          refine x_gf (v := .int (rd w_2 12 0 17)) E fr_X7_164 rfl rfl dX7_judgedNow_23 ?_
          refine x_iload_n E dX7_judgedNow_26 rfl 2 rfl ?_
          refine x_icmp_le (tgt := 37) E dX7_judgedNow_27 (by decide) hm (fun _ hm => ?_) (fun _ hm => ?_)
          · refine x_iincB (lv' := fun x_4 => [(3, .int x_4), (0, .ref (ad 12 0)), (1, .int b1), (2, .int b2)]) (j := 3) E dX7_judgedNow_37 rfl rfl (by decide) (fun _ => rfl) hm (fun x_4 hm => ?_)
            refine x_goto (tgt := 6) E dX7_judgedNow_40 (by decide) ?_
            exact x_weak [1, 2, 3, 0] rfl ((ih) b1 b2 x_4 w_2 hm)
          · refine x_iload_n E dX7_judgedNow_30 rfl 3 rfl ?_
            refine x_istore_n (lv' := [(1, .int b3), (0, .ref (ad 12 0)), (2, .int b2), (3, .int b3)]) E dX7_judgedNow_31 rfl (by decide) rfl ?_
            refine x_aload_n E dX7_judgedNow_32 rfl 1 rfl ?_
            refine x_gf (v := .int (rd w_2 12 0 17)) E fr_X7_164 rfl rfl dX7_judgedNow_33 ?_
            refine x_bI hm (fun x_5 hm => ?_)
            refine x_istore_n (lv' := [(2, .int x_5), (1, .int b3), (0, .ref (ad 12 0)), (3, .int b3)]) E dX7_judgedNow_36 rfl (by decide) rfl ?_
            refine x_iincB (lv' := fun x_6 => [(3, .int x_6), (2, .int x_5), (1, .int b3), (0, .ref (ad 12 0))]) (j := 3) E dX7_judgedNow_37 rfl rfl (by decide) (fun _ => rfl) hm (fun x_6 hm => ?_)
            refine x_goto (tgt := 6) E dX7_judgedNow_40 (by decide) ?_
            exact x_weak [3, 2, 1, 0] rfl ((ih) b3 x_5 x_6 w_2 hm)
  unfold X7_judgedNow at hm
  refine x_iconst (v := (iI (-1))) E dX7_judgedNow_0 (by decide) ?_
  refine x_istore_n (lv' := [(1, .int (iI (-1))), (0, .ref (ad 12 0))]) E dX7_judgedNow_1 rfl (by decide) rfl ?_
  refine x_iconst (v := (iI (-1))) E dX7_judgedNow_2 (by decide) ?_
  refine x_istore_n (lv' := [(2, .int (iI (-1))), (1, .int (iI (-1))), (0, .ref (ad 12 0))]) E dX7_judgedNow_3 rfl (by decide) rfl ?_
  refine x_iconst (v := (iI 0)) E dX7_judgedNow_4 (by decide) ?_
  refine x_istore_n (lv' := [(3, .int (iI 0)), (2, .int (iI (-1))), (1, .int (iI (-1))), (0, .ref (ad 12 0))]) E dX7_judgedNow_5 rfl (by decide) rfl ?_
  exact x_weak [3, 2, 1, 0] rfl ((hL6 1000) (iI (-1)) (iI (-1)) (iI 0) w hm)

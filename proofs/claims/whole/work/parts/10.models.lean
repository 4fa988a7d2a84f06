/-! What each method answers and leaves, as functions of the numbers (by program, out of the bytecode). -/
def X0_signMove (a0 : Int32) (a1 : Int32) : Int32 :=
  if a1 = (iI 97) then
    ((a0 * (iI 3)) + (iI 1))
  else
    if a1 = (iI 98) then
      ((a0 * (iI 3)) + (iI 2))
    else
      (iI (-1))
def X0_beginMove (a0 : Int32) : Int32 :=
  if a0 = (iI 99) then
    (iI 3)
  else
    if a0 = (iI 100) then
      (iI 6)
    else
      if a0 = (iI 101) then
        (iI 9)
      else
        if a0 = (iI 102) then
          (iI 12)
        else
          (X0_signMove (iI 0) a0)
def X0_gain (w : Wd) (g : Nat) (a1 : Int32) (a2 : Int32) : Option Int32 :=
  if a1 < 0 then
    some (iI 0)
  else
    if (iI 15) ≤ a1 then
      some (iI 0)
    else
      if a2 < 0 then
        some (iI 0)
      else
        if a2 < (iI 8) then
          ga w g 4 120 ((a1 * (iI 8)) + a2) fun x_1 =>
          some x_1
        else
          some (iI 0)
def X0_kind (w : Wd) (g : Nat) : Int32 :=
  (rd w g 0 2)
def X0_sortPair (a0 : Int32) (a1 : Int32) : Int32 :=
  ((((a0 - (iI 1)) * (iI 2)) + a1) - (iI 1))
def X2_marksBegin (a0 : Int32) : Int32 :=
  if a0 = (iI 1) then
    (iI 2)
  else
    if a0 = (iI 3) then
      (iI 2)
    else
      (iI 1)
def X2_pointsBegin (a0 : Int32) : Int32 :=
  if a0 = (iI 3) then
    ((X2_marksBegin a0) + (iI 16))
  else
    ((X2_marksBegin a0) + (iI 8))
def X0_pointsOf (w : Wd) (g : Nat) (a1 : Int32) : Option Int32 :=
  bnd ((X2_pointsBegin (rd w g 0 2)) + a1) fun x_1 =>
  if x_1 < 0 then
    some (iI 0)
  else
    if (rd w g 0 1) ≤ x_1 then
      some (iI 0)
    else
      ga w g 1 22 x_1 fun x_2 =>
      some (x_2 - (iI 48))
def X0_layOut_L64 (k3 : Int32 → Int32 → Int32 → Int32 → Wd → Option Wd) (g : Nat) (b1 : Int32) (b2 : Int32) (b3 : Int32) (b4 : Int32) (b5 : Int32) (b6 : Int32) (t0 : Int32) (t1 : Int32) (w : Wd) : Option Wd :=
  pa w g 3 120 t1 t0 fun w_2 =>
  if b6 = 0 then
    pa w_2 g 4 120 b5 (iI 0) fun w_3 =>
    bnd (b4 + (iI 1)) fun x_4 =>
    k3 b1 b2 b3 x_4 w_3
  else
    if b4 = 0 then
      pa w_2 g 4 120 b5 (iI 0) fun w_5 =>
      bnd (b4 + (iI 1)) fun x_6 =>
      k3 b1 b2 b3 x_6 w_5
    else
      ob (X0_pointsOf w_2 g (X0_sortPair b4 (irm b3 (iI 3)))) fun r_7 =>
      pa w_2 g 4 120 b5 r_7 fun w_8 =>
      bnd (b4 + (iI 1)) fun x_9 =>
      k3 b1 b2 b3 x_9 w_8
def X0_layOut_L38 (k3 : Int32 → Int32 → Int32 → Int32 → Wd → Option Wd) (g : Nat) (b1 : Int32) (b2 : Int32) (b3 : Int32) (b4 : Int32) (b5 : Int32) (t0 : Int32) (w : Wd) : Option Wd :=
  if b3 = (iI (-1)) then
    (X0_layOut_L64 k3 g) b1 b2 b3 b4 b5 t0 b3 b5 w
  else
    if t0 = 0 then
      (X0_layOut_L64 k3 g) b1 b2 b3 b4 b5 t0 (b3 + b4) b5 w
    else
      (X0_layOut_L64 k3 g) b1 b2 b3 b4 b5 t0 b3 b5 w
def X0_layOut_L3 : Nat → Nat → Int32 → Int32 → Int32 → Int32 → Wd → Option Wd
  | 0, _, _, _, _, _, _ => none
  | fuel + 1, g, b1, b2, b3, b4, w =>
    if (iI 3) ≤ b4 then
      some w
    else
      bnd ((((b1 * (iI 3)) + b4) * (iI 8)) + b2) fun x_1 =>
      if b3 = (iI (-1)) then
        (X0_layOut_L38 (X0_layOut_L3 fuel g) g) b1 b2 b3 b4 x_1 (iI 0) w
      else
        if (irm b3 (iI 3)) = 0 then
          (X0_layOut_L38 (X0_layOut_L3 fuel g) g) b1 b2 b3 b4 x_1 (iI 0) w
        else
          (X0_layOut_L38 (X0_layOut_L3 fuel g) g) b1 b2 b3 b4 x_1 (iI 1) w
def X0_layOut (w : Wd) (g : Nat) (a1 : Int32) (a2 : Int32) (a3 : Int32) : Option Wd :=
  (X0_layOut_L3 1000 g) a1 a2 a3 (iI 0) w
def X0_moveIn (w : Wd) (g : Nat) (a1 : Int32) (a2 : Int32) : Option Int32 :=
  if a1 < 0 then
    some (iI (-1))
  else
    if (iI 5) ≤ a1 then
      some (iI (-1))
    else
      if a2 < 0 then
        some (iI (-1))
      else
        if a2 < (iI 8) then
          ga w g 2 40 ((a1 * (iI 8)) + a2) fun x_1 =>
          some x_1
        else
          some (iI (-1))
def X0_nextMode (w : Wd) (g : Nat) (a1 : Int32) (a2 : Int32) : Option Int32 :=
  ob (X0_moveIn w g a1 a2) fun r_1 =>
  if r_1 = (iI (-1)) then
    some (iI (-1))
  else
    some (r_1 / (iI 3))
def X0_lengthenWays_L20 : Nat → (Int32 → Wd → Option Wd) → Nat → Int32 → Int32 → Wd → Option Wd
  | 0, _, _, _, _, _ => none
  | fuel + 1, k63, g, b1, b2, w =>
    if (iI 8) ≤ b2 then
      k63 b1 w
    else
      ob (X0_nextMode w g b1 b2) fun r_2 =>
      if r_2 < 0 then
        bnd (b2 + (iI 1)) fun x_3 =>
        (X0_lengthenWays_L20 fuel k63 g) b1 x_3 w
      else
        if (iI 5) ≤ r_2 then
          bnd (b2 + (iI 1)) fun x_4 =>
          (X0_lengthenWays_L20 fuel k63 g) b1 x_4 w
        else
          ga w g 6 5 r_2 fun x_5 =>
          ga w g 5 5 b1 fun x_6 =>
          pa w g 6 5 r_2 (x_5 + x_6) fun w_7 =>
          bnd (b2 + (iI 1)) fun x_8 =>
          (X0_lengthenWays_L20 fuel k63 g) b1 x_8 w_7
def X0_lengthenWays_L63 (k10 : Int32 → Wd → Option Wd) (g : Nat) (b1 : Int32) (w : Wd) : Option Wd :=
  bnd (b1 + (iI 1)) fun x_10 =>
  k10 x_10 w
def X0_lengthenWays_L10 : Nat → (Wd → Option Wd) → Nat → Int32 → Wd → Option Wd
  | 0, _, _, _, _ => none
  | fuel + 1, k69, g, b1, w =>
    if (rd w g 0 3) ≤ b1 then
      k69 w
    else
      (X0_lengthenWays_L20 1000 (X0_lengthenWays_L63 (X0_lengthenWays_L10 fuel k69 g) g) g) b1 (iI 0) w
def X0_lengthenWays_L69 (g : Nat) (w : Wd) : Option Wd :=
  bnd (wcopy w g 6 g 5 5) fun w_9 =>
  some w_9
def X0_lengthenWays (w : Wd) (g : Nat) : Option Wd :=
  bnd (wfill w g 6 5 (iI 0)) fun w_1 =>
  (X0_lengthenWays_L10 1000 (X0_lengthenWays_L69 g) g) (iI 0) w_1
def X2_kindOf (a0 : Int32) : Int32 :=
  if a0 = (iI 99) then
    (iI 2)
  else
    if a0 = (iI 102) then
      (iI 0)
    else
      if a0 = (iI 112) then
        (iI 1)
      else
        if a0 = (iI 116) then
          (iI 3)
        else
          (iI (-1))
def X0_modesOf (a0 : Int32) : Int32 :=
  if a0 = (iI 2) then
    (iI 5)
  else
    if a0 = 0 then
      (iI 1)
    else
      (iI 2)
def X0_markOf (w : Wd) (g : Nat) (a1 : Int32) (a2 : Int32) : Option Int32 :=
  bnd (((X2_marksBegin (rd w g 0 2)) + (a1 * (iI 8))) + a2) fun x_1 =>
  if x_1 < 0 then
    some (iI 33)
  else
    if (rd w g 0 1) ≤ x_1 then
      some (iI 33)
    else
      ga w g 1 22 x_1 fun x_2 =>
      some x_2
def X0_wantedMove (a0 : Int32) (a1 : Int32) : Int32 :=
  if a1 = (iI 43) then
    if a0 = (iI 1) then
      (iI 1)
    else
      if a0 = (iI 2) then
        (iI 2)
      else
        if a0 = (iI 3) then
          (iI 3)
        else
          if a0 = (iI 4) then
            (iI 6)
          else
            (iI (-1))
  else
    (iI (-1))
def X0_moveOf (w : Wd) (g : Nat) (a1 : Int32) (a2 : Int32) : Option Int32 :=
  if (rd w g 0 2) = (iI 0) then
    ob (X0_markOf w g (iI 0) a2) fun r_1 =>
    some (X0_signMove (iI 0) r_1)
  else
    if (rd w g 0 2) = (iI 1) then
      if a1 = 0 then
        if a2 < (rd w g 0 4) then
          ob (X0_markOf w g (iI 0) a2) fun r_3 =>
          some (X0_signMove (iI 0) r_3)
        else
          some (iI 3)
      else
        ob (X0_markOf w g (iI 0) a2) fun r_2 =>
        some (X0_signMove (iI 0) r_2)
    else
      if (rd w g 0 2) = (iI 2) then
        if a1 = 0 then
          ob (X0_markOf w g (iI 0) a2) fun r_5 =>
          some (X0_beginMove r_5)
        else
          ob (X0_markOf w g (iI 0) a2) fun r_4 =>
          some (X0_wantedMove a1 r_4)
      else
        if (rd w g 0 2) = (iI 3) then
          if a2 = (rd w g 0 4) then
            some (((iI 1) - a1) * (iI 3))
          else
            ob (X0_markOf w g a1 a2) fun r_6 =>
            some (X0_signMove a1 r_6)
        else
          some (iI (-1))
def X0_load_L17 : Nat → (Wd → Option Wd) → Nat → Int32 → Wd → Option Wd
  | 0, _, _, _, _ => none
  | fuel + 1, k40, g, b3, w =>
    if (rd w g 0 1) ≤ b3 then
      k40 w
    else
      ga w 0 1 40 b3 fun x_2 =>
      pa w g 1 22 b3 x_2 fun w_3 =>
      bnd (b3 + (iI 1)) fun x_4 =>
      (X0_load_L17 fuel k40 g) x_4 w_3
def X0_load_L113 (k87 : Int32 → Int32 → Wd → Option Wd) (g : Nat) (b3 : Int32) (b4 : Int32) (t0 : Int32) (w : Wd) : Option Wd :=
  pa w g 2 40 ((b3 * (iI 8)) + b4) t0 fun w_12 =>
  ob (X0_layOut w_12 g b3 b4 t0) fun w_13 =>
  bnd (b4 + (iI 1)) fun x_14 =>
  k87 b3 x_14 w_13
def X0_load_L87 : Nat → (Int32 → Wd → Option Wd) → Nat → Int32 → Int32 → Wd → Option Wd
  | 0, _, _, _, _, _ => none
  | fuel + 1, k144, g, b3, b4, w =>
    if (iI 8) ≤ b4 then
      k144 b3 w
    else
      if (rd w g 0 3) ≤ b3 then
        (X0_load_L113 (X0_load_L87 fuel k144 g) g) b3 b4 (iI (-1)) w
      else
        ob (X0_moveOf w g b3 b4) fun r_10 =>
        (X0_load_L113 (X0_load_L87 fuel k144 g) g) b3 b4 r_10 w
def X0_load_L144 (k79 : Int32 → Wd → Option Wd) (g : Nat) (b3 : Int32) (w : Wd) : Option Wd :=
  bnd (b3 + (iI 1)) fun x_11 =>
  k79 x_11 w
def X0_load_L79 : Nat → Nat → Int32 → Wd → Option Wd
  | 0, _, _, _ => none
  | fuel + 1, g, b3, w =>
    if (iI 5) ≤ b3 then
      some w
    else
      (X0_load_L87 1000 (X0_load_L144 (X0_load_L79 fuel g) g) g) b3 (iI 0) w
def X0_load_L40 (g : Nat) (w : Wd) : Option Wd :=
  ga w g 1 22 (iI 0) fun x_5 =>
  bnd (wr w g 0 2 (X2_kindOf x_5)) fun w_6 =>
  ga w_6 g 1 22 (iI 1) fun x_7 =>
  bnd (wr w_6 g 0 4 (x_7 - (iI 48))) fun w_8 =>
  bnd (wr w_8 g 0 3 (X0_modesOf (rd w_8 g 0 2))) fun w_9 =>
  (X0_load_L79 1000 g) (iI 0) w_9
def X0_load (w : Wd) (g : Nat) (a2 : Int32) : Option Wd :=
  bnd (wr w g 0 1 (imin (imin a2 (iI 40)) (iI 22))) fun w_1 =>
  (X0_load_L17 1000 (X0_load_L40 g) g) (iI 0) w_1
def X0_modeOf (a0 : Int32) : Int32 :=
  (a0 / (iI 3))
def X0_modes (w : Wd) (g : Nat) : Int32 :=
  (rd w g 0 3)
def X0_nextState (w : Wd) (g : Nat) (a1 : Int32) (a2 : Int32) : Option Int32 :=
  if a1 < 0 then
    some (iI (-1))
  else
    if (iI 15) ≤ a1 then
      some (iI (-1))
    else
      if a2 < 0 then
        some (iI (-1))
      else
        if a2 < (iI 8) then
          ga w g 3 120 ((a1 * (iI 8)) + a2) fun x_1 =>
          some x_1
        else
          some (iI (-1))
def X0_sortEnded (w : Wd) (g : Nat) (a1 : Int32) (a2 : Int32) : Option Int32 :=
  ob (X0_moveIn w g a1 a2) fun r_1 =>
  if r_1 = (iI (-1)) then
    some (iI 0)
  else
    some (irm r_1 (iI 3))
def X0_states (w : Wd) (g : Nat) : Int32 :=
  ((rd w g 0 3) * (iI 3))
def X0_textAt (w : Wd) (g : Nat) (a1 : Int32) : Option Int32 :=
  if a1 < 0 then
    some (iI (-101))
  else
    if (rd w g 0 1) ≤ a1 then
      some (iI (-101))
    else
      ga w g 1 22 a1 fun x_1 =>
      some x_1
def X0_textLength (w : Wd) (g : Nat) : Int32 :=
  (rd w g 0 1)
def X0_validRows_L17 : Nat → Nat → Int32 → Int32 → Wd → Option (Int32 × Wd)
  | 0, _, _, _, _ => none
  | fuel + 1, g, b1, b2, w =>
    if b1 ≤ b2 then
      ga w g 5 5 (iI 0) fun x_3 =>
      some (x_3, w)
    else
      ob (X0_lengthenWays w g) fun w_4 =>
      bnd (b2 + (iI 1)) fun x_5 =>
      (X0_validRows_L17 fuel g) b1 x_5 w_4
def X0_validRows (w : Wd) (g : Nat) (a1 : Int32) : Option (Int32 × Wd) :=
  bnd (wfill w g 5 5 (iI 0)) fun w_1 =>
  pa w_1 g 5 5 (iI 0) (iI 1) fun w_2 =>
  (X0_validRows_L17 1000 g) a1 (iI 0) w_2
def X1_isBetter (w : Wd) (a1 : Int32) (a2 : Int32) (a3 : Int32) (a4 : Int32) (a5 : Int32) : Option Int32 :=
  ga w 11 2 41 a1 fun x_1 =>
  if x_1 = (iI (-1)) then
    some (iI 1)
  else
    ga w 11 1 41 a1 fun x_2 =>
    if a2 = x_2 then
      ga w 11 2 41 a1 fun x_3 =>
      if a3 = x_3 then
        ga w 11 3 41 a1 fun x_4 =>
        if a4 = x_4 then
          ga w 11 4 41 a1 fun x_5 =>
          if x_5 ≤ a5 then
            some (iI 0)
          else
            some (iI 1)
        else
          ga w 11 3 41 a1 fun x_6 =>
          if x_6 ≤ a4 then
            some (iI 0)
          else
            some (iI 1)
      else
        ga w 11 2 41 a1 fun x_7 =>
        if x_7 ≤ a3 then
          some (iI 0)
        else
          some (iI 1)
    else
      ga w 11 1 41 a1 fun x_8 =>
      if a2 ≤ x_8 then
        some (iI 0)
      else
        some (iI 1)
def X1_tryPiece_L32 (b1 : Int32) (b2 : Int32) (b3 : Int32) (b4 : Int32) (t0 : Int32) (t1 : Int32) (w : Wd) : Option Wd :=
  bnd (t1 + t0) fun x_3 =>
  ga w 11 2 41 b2 fun x_4 =>
  bnd (x_4 + (iI 1)) fun x_5 =>
  ob (X1_isBetter w b1 x_3 x_5 b2 b3) fun r_6 =>
  if r_6 = 0 then
    some w
  else
    pa w 11 1 41 b1 x_3 fun w_7 =>
    pa w_7 11 2 41 b1 x_5 fun w_8 =>
    pa w_8 11 3 41 b1 b2 fun w_9 =>
    pa w_9 11 4 41 b1 b3 fun w_10 =>
    pa w_10 11 5 41 b1 b4 fun w_11 =>
    some w_11
def X1_tryPiece (w : Wd) (a1 : Int32) (a2 : Int32) (a3 : Int32) (a4 : Int32) (a5 : Int32) : Option Wd :=
  ga w 11 2 41 a2 fun x_1 =>
  if x_1 = (iI (-1)) then
    some w
  else
    if a5 ≤ a2 then
      (X1_tryPiece_L32) a1 a2 a3 a4 (iI 0) a4 w
    else
      ga w 11 1 41 a2 fun x_2 =>
      (X1_tryPiece_L32) a1 a2 a3 a4 (x_2 - (iI 7)) a4 w
def X1_tryPieces_L10 : Nat → Nat → Int32 → Int32 → Int32 → Int32 → Int32 → Int32 → Wd → Option Wd
  | 0, _, _, _, _, _, _, _, _ => none
  | fuel + 1, g1, b2, b4, b5, b6, b7, b8, w =>
    if b5 ≤ b8 then
      some w
    else
      if b6 = (iI (-1)) then
        some w
      else
        ga w 0 2 40 b8 fun x_1 =>
        ob (X0_gain w g1 b6 x_1) fun r_2 =>
        bnd (b7 + r_2) fun x_3 =>
        ga w 0 2 40 b8 fun x_4 =>
        ob (X0_nextState w g1 b6 x_4) fun r_5 =>
        if r_5 = (iI (-1)) then
          bnd (b8 + (iI 1)) fun x_6 =>
          (X1_tryPieces_L10 fuel g1) b2 b4 b5 r_5 x_3 x_6 w
        else
          if (X0_modeOf r_5) = 0 then
            ob (X1_tryPiece w b4 (b8 + (iI 1)) b2 x_3 b5) fun w_8 =>
            bnd (b8 + (iI 1)) fun x_9 =>
            (X1_tryPieces_L10 fuel g1) b2 b4 b5 r_5 x_3 x_9 w_8
          else
            bnd (b8 + (iI 1)) fun x_7 =>
            (X1_tryPieces_L10 fuel g1) b2 b4 b5 r_5 x_3 x_7 w
def X1_tryPieces (w : Wd) (g1 : Nat) (a2 : Int32) (a4 : Int32) (a5 : Int32) : Option Wd :=
  (X1_tryPieces_L10 1000 g1) a2 a4 a5 (iI 0) (iI 0) a4 w
def X1_divide_L52 : Nat → (Int32 → Int32 → Int32 → Wd → Option (Int32 × Wd)) → Int32 → Int32 → Int32 → Int32 → Wd → Option (Int32 × Wd)
  | 0, _, _, _, _, _, _ => none
  | fuel + 1, k86, b2, b5, b6, b7, w =>
    if b2 ≤ b7 then
      k86 b2 b5 b6 w
    else
      if (iI 4) ≤ b7 then
        k86 b2 b5 b6 w
      else
        ix 4 b7 fun n_6 =>
        ob (X1_tryPieces w (n_6 + 1) b7 b6 b5) fun w_7 =>
        bnd (b7 + (iI 1)) fun x_8 =>
        (X1_divide_L52 fuel k86) b2 b5 b6 x_8 w_7
def X1_divide_L86 (k36 : Int32 → Int32 → Int32 → Wd → Option (Int32 × Wd)) (b2 : Int32) (b5 : Int32) (b6 : Int32) (w : Wd) : Option (Int32 × Wd) :=
  bnd (b6 + (iI (-1))) fun x_10 =>
  k36 b2 b5 x_10 w
def X1_divide_L36 : Nat → (Wd → Option (Int32 × Wd)) → Int32 → Int32 → Int32 → Wd → Option (Int32 × Wd)
  | 0, _, _, _, _, _ => none
  | fuel + 1, k92, b2, b5, b6, w =>
    if b6 < 0 then
      k92 w
    else
      pa w 11 2 41 b6 (iI (-1)) fun w_5 =>
      (X1_divide_L52 1000 (X1_divide_L86 (X1_divide_L36 fuel k92))) b2 b5 b6 (iI 0) w_5
def X1_divide_L92 (w : Wd) : Option (Int32 × Wd) :=
  ga w 11 2 41 (iI 0) fun x_9 =>
  if x_9 = (iI (-1)) then
    some ((iI 0), w)
  else
    some ((iI 1), w)
def X1_divide (w : Wd) (a2 : Int32) (a4 : Int32) : Option (Int32 × Wd) :=
  bnd (imin (imin a4 (iI 40)) (iI 40)) fun x_1 =>
  pa w 11 1 41 x_1 (iI 0) fun w_2 =>
  pa w_2 11 2 41 x_1 (iI 0) fun w_3 =>
  bnd (x_1 - (iI 1)) fun x_4 =>
  (X1_divide_L36 1000 (X1_divide_L92)) a2 x_1 x_4 w_3
def X1_pieceCount (w : Wd) : Option Int32 :=
  ga w 11 2 41 (iI 0) fun x_1 =>
  some x_1
def X1_propertyOf_L5 : Nat → (Int32 → Int32 → Wd → Option Int32) → Int32 → Int32 → Int32 → Int32 → Wd → Option Int32
  | 0, _, _, _, _, _, _ => none
  | fuel + 1, k30, b1, b2, b3, b4, w =>
    if b1 ≤ b4 then
      k30 b2 b3 w
    else
      if (iI 40) ≤ b3 then
        k30 b2 b3 w
      else
        ga w 11 3 41 b3 fun x_1 =>
        bnd (b4 + (iI 1)) fun x_2 =>
        (X1_propertyOf_L5 fuel k30) b1 b2 x_1 x_2 w
def X1_propertyOf_L30 (b2 : Int32) (b3 : Int32) (w : Wd) : Option Int32 :=
  if b2 = (iI 0) then
    ga w 11 3 41 b3 fun x_3 =>
    some x_3
  else
    if b2 = (iI 1) then
      ga w 11 4 41 b3 fun x_4 =>
      some x_4
    else
      ga w 11 5 41 b3 fun x_5 =>
      some x_5
def X1_propertyOf (w : Wd) (a1 : Int32) (a2 : Int32) : Option Int32 :=
  (X1_propertyOf_L5 1000 (X1_propertyOf_L30)) a1 a2 (iI 0) (iI 0) w
def X1_worth (w : Wd) : Option Int32 :=
  ga w 11 1 41 (iI 0) fun x_1 =>
  some x_1
def X2_isMark (a0 : Int32) (a1 : Int32) : Int32 :=
  if a1 = (iI 97) then
    (iI 1)
  else
    if a1 = (iI 98) then
      (iI 1)
    else
      if a1 = (iI 33) then
        (iI 1)
      else
        if a0 = (iI 2) then
          if a1 = (iI 43) then
            (iI 1)
          else
            if a1 < (iI 99) then
              (iI 0)
            else
              if (iI 102) < a1 then
                (iI 0)
              else
                (iI 1)
        else
          (iI 0)
theorem b_X2_isMark (a0 : Int32) (a1 : Int32) : isB (X2_isMark a0 a1) := by
  unfold X2_isMark
  (repeat' split) <;> first | exact Or.inl rfl | exact Or.inr rfl
def X2_textLength (a0 : Int32) : Int32 :=
  ((X2_pointsBegin a0) + (iI 4))
def X2_fits (a0 : Int32) (a1 : Int32) (a2 : Int32) : Int32 :=
  if (X2_marksBegin a0) ≤ a1 then
    if (X2_pointsBegin a0) ≤ a1 then
      if (X2_textLength a0) ≤ a1 then
        (iI 0)
      else
        if a2 < (iI 48) then
          (iI 0)
        else
          if (iI 57) < a2 then
            (iI 0)
          else
            (iI 1)
    else
      (X2_isMark a0 a2)
  else
    if a0 = (iI 1) then
      if a2 < (iI 49) then
        (iI 0)
      else
        if (iI 55) < a2 then
          (iI 0)
        else
          (iI 1)
    else
      if a2 < (iI 48) then
        (iI 0)
      else
        if (iI 55) < a2 then
          (iI 0)
        else
          (iI 1)
theorem b_X2_fits (a0 : Int32) (a1 : Int32) (a2 : Int32) : isB (X2_fits a0 a1 a2) := by
  unfold X2_fits
  (repeat' split) <;> first | exact Or.inl rfl | exact Or.inr rfl | apply b_X2_isMark
def X2_firstFault_L28 : Nat → Int32 → Int32 → Int32 → Wd → Option Int32
  | 0, _, _, _, _ => none
  | fuel + 1, b1, b2, b3, w =>
    if b1 ≤ b3 then
      some b1
    else
      ga w 0 1 40 b3 fun x_3 =>
      if (X2_fits b2 b3 x_3) = 0 then
        some b3
      else
        bnd (b3 + (iI 1)) fun x_4 =>
        (X2_firstFault_L28 fuel) b1 b2 x_4 w
def X2_firstFault (w : Wd) (a1 : Int32) : Option Int32 :=
  if a1 ≤ 0 then
    some (iI 0)
  else
    if a1 ≤ (iI 40) then
      ga w 0 1 40 (iI 0) fun x_1 =>
      bnd (X2_kindOf x_1) fun x_2 =>
      if x_2 = (iI (-1)) then
        some (iI 0)
      else
        (X2_firstFault_L28 1000) a1 x_2 (iI 1) w
    else
      some (iI 0)
def X2_isWhole (w : Wd) (a1 : Int32) : Option Int32 :=
  if a1 ≤ 0 then
    some (iI 0)
  else
    if a1 ≤ (iI 40) then
      ga w 0 1 40 (iI 0) fun x_1 =>
      bnd (X2_kindOf x_1) fun x_2 =>
      if x_2 = (iI (-1)) then
        some (iI 0)
      else
        if a1 = (X2_textLength x_2) then
          ob (X2_firstFault w a1) fun r_3 =>
          if r_3 = a1 then
            some (iI 1)
          else
            some (iI 0)
        else
          some (iI 0)
    else
      some (iI 0)
def X3_beginAtEnd_L18 : Nat → (Int32 → Wd → Option Wd) → Int32 → Int32 → Wd → Option Wd
  | 0, _, _, _, _ => none
  | fuel + 1, k41, b1, b2, w =>
    if (iI 3) ≤ b2 then
      k41 b1 w
    else
      pa w 9 1 225 ((b1 * (iI 15)) + b2) (iI 0) fun w_2 =>
      bnd (b2 + (iI 1)) fun x_3 =>
      (X3_beginAtEnd_L18 fuel k41) b1 x_3 w_2
def X3_beginAtEnd_L41 (k11 : Int32 → Wd → Option Wd) (b1 : Int32) (w : Wd) : Option Wd :=
  bnd (b1 + (iI 1)) fun x_4 =>
  k11 x_4 w
def X3_beginAtEnd_L11 : Nat → Int32 → Wd → Option Wd
  | 0, _, _ => none
  | fuel + 1, b1, w =>
    if (iI 3) ≤ b1 then
      some w
    else
      (X3_beginAtEnd_L18 1000 (X3_beginAtEnd_L41 (X3_beginAtEnd_L11 fuel))) b1 (iI 0) w
def X3_beginAtEnd (w : Wd) : Option Wd :=
  bnd (wfill w 9 1 225 (iI (-1000000))) fun w_1 =>
  (X3_beginAtEnd_L11 1000) (iI 0) w_1
def X5_stateAt (w : Wd) (g : Nat) (a1 : Int32) : Option Int32 :=
  if a1 < 0 then
    some (iI (-1))
  else
    if (rd w g 0 5) < a1 then
      some (iI (-1))
    else
      ga w g 1 41 a1 fun x_1 =>
      some x_1
def X3_leadAt (w : Wd) (a1 : Int32) (a2 : Int32) : Option Int32 :=
  if a1 < 0 then
    some (iI (-1000000))
  else
    if (iI 15) ≤ a1 then
      some (iI (-1000000))
    else
      if a2 < 0 then
        some (iI (-1000000))
      else
        if a2 < (iI 15) then
          ga w 9 1 225 ((a1 * (iI 15)) + a2) fun x_1 =>
          some x_1
        else
          some (iI (-1000000))
def X5_weightAt (w : Wd) (g : Nat) (a1 : Int32) : Option Int32 :=
  if a1 < 0 then
    some (iI 0)
  else
    if (rd w g 0 5) < a1 then
      some (iI 0)
    else
      ga w g 2 41 a1 fun x_1 =>
      some x_1
def X3_lengthenBy_L15 : Nat → Nat → Int32 → Int32 → Int32 → Int32 → Int32 → Int32 → Wd → Option Wd
  | 0, _, _, _, _, _, _, _, _ => none
  | fuel + 1, g5, b1, b2, b3, b4, b6, b7, w =>
    if b6 ≤ b7 then
      some w
    else
      ob (X0_nextState w g5 b7 b1) fun r_2 =>
      ob (X3_leadAt w b3 r_2) fun r_3 =>
      if r_3 = (iI (-1000000)) then
        bnd (b7 + (iI 1)) fun x_4 =>
        (X3_lengthenBy_L15 fuel g5) b1 b2 b3 b4 b6 x_4 w
      else
        ob (X0_gain w g5 b7 b1) fun r_5 =>
        bnd ((r_3 + r_5) - b4) fun x_6 =>
        bnd ((b2 * (iI 15)) + b7) fun x_7 =>
        ga w 9 2 225 x_7 fun x_8 =>
        pa w 9 2 225 x_7 (imax x_8 x_6) fun w_9 =>
        bnd (b7 + (iI 1)) fun x_10 =>
        (X3_lengthenBy_L15 fuel g5) b1 b2 b3 b4 b6 x_10 w_9
def X3_lengthenBy (w : Wd) (a1 : Int32) (a2 : Int32) (a3 : Int32) (a4 : Int32) (g5 : Nat) : Option Wd :=
  bnd (imin (X0_states w g5) (iI 15)) fun x_1 =>
  (X3_lengthenBy_L15 1000 g5) a1 a2 a3 a4 x_1 (iI 0) w
def X3_lengthen_L31 : Nat → (Int32 → Int32 → Wd → Option Wd) → Nat → Nat → Int32 → Int32 → Int32 → Wd → Option Wd
  | 0, _, _, _, _, _, _, _ => none
  | fuel + 1, k79, g1, g2, b3, b4, b5, w =>
    if (iI 8) ≤ b5 then
      k79 b3 b4 w
    else
      ob (X0_nextState w g1 b4 b5) fun r_4 =>
      if r_4 = (iI (-1)) then
        bnd (b5 + (iI 1)) fun x_5 =>
        (X3_lengthen_L31 fuel k79 g1 g2) b3 b4 x_5 w
      else
        ob (X0_gain w g1 b4 b5) fun r_6 =>
        ob (X3_lengthenBy w b5 b4 r_4 r_6 g2) fun w_7 =>
        bnd (b5 + (iI 1)) fun x_8 =>
        (X3_lengthen_L31 fuel k79 g1 g2) b3 b4 x_8 w_7
def X3_lengthen_L79 (k22 : Int32 → Int32 → Wd → Option Wd) (g1 : Nat) (g2 : Nat) (b3 : Int32) (b4 : Int32) (w : Wd) : Option Wd :=
  bnd (b4 + (iI 1)) fun x_9 =>
  k22 b3 x_9 w
def X3_lengthen_L22 : Nat → (Wd → Option Wd) → Nat → Nat → Int32 → Int32 → Wd → Option Wd
  | 0, _, _, _, _, _, _ => none
  | fuel + 1, k85, g1, g2, b3, b4, w =>
    if b3 ≤ b4 then
      k85 w
    else
      (X3_lengthen_L31 1000 (X3_lengthen_L79 (X3_lengthen_L22 fuel k85 g1 g2) g1 g2) g1 g2) b3 b4 (iI 0) w
def X3_lengthen_L85 (g1 : Nat) (g2 : Nat) (w : Wd) : Option Wd :=
  bnd (wcopy w 9 2 9 1 225) fun w_3 =>
  some w_3
def X3_lengthen (w : Wd) (g1 : Nat) (g2 : Nat) : Option Wd :=
  bnd (wfill w 9 2 225 (iI (-1000000))) fun w_1 =>
  bnd (imin (X0_states w_1 g1) (iI 15)) fun x_2 =>
  (X3_lengthen_L22 1000 (X3_lengthen_L85 g1 g2) g1 g2) x_2 (iI 0) w_1
def X3_lastBeaten_L19 : Nat → Nat → Nat → Int32 → Int32 → Wd → Option (Int32 × Wd)
  | 0, _, _, _, _, _ => none
  | fuel + 1, g1, g2, b5, b6, w =>
    if b6 < 0 then
      some ((iI (-1)), w)
    else
      ob (X5_stateAt w g1 b6) fun r_3 =>
      ob (X5_stateAt w g2 b6) fun r_4 =>
      ob (X3_leadAt w r_3 r_4) fun r_5 =>
      if r_5 = (iI (-1000000)) then
        ob (X3_lengthen w (g1 - 4) (g2 - 4)) fun w_6 =>
        bnd (b6 + (iI (-1))) fun x_7 =>
        (X3_lastBeaten_L19 fuel g1 g2) b5 x_7 w_6
      else
        ob (X5_weightAt w g2 b6) fun r_8 =>
        ob (X5_weightAt w g1 b6) fun r_9 =>
        if ((r_8 - r_9) + r_5) < b5 then
          ob (X3_lengthen w (g1 - 4) (g2 - 4)) fun w_10 =>
          bnd (b6 + (iI (-1))) fun x_11 =>
          (X3_lastBeaten_L19 fuel g1 g2) b5 x_11 w_10
        else
          some (b6, w)
def X3_lastBeaten (w : Wd) (g1 : Nat) (g2 : Nat) (a3 : Int32) (a4 : Int32) : Option (Int32 × Wd) :=
  if a4 = 0 then
    ob (X3_beginAtEnd w) fun w_1 =>
    (X3_lastBeaten_L19 1000 g1 g2) (iI 1) a3 w_1
  else
    ob (X3_beginAtEnd w) fun w_2 =>
    (X3_lastBeaten_L19 1000 g1 g2) (iI 0) a3 w_2
def X3_oneUnitEarlier_L19 : Nat → (Int32 → Int32 → Int32 → Int32 → Wd → Option Int32) → Nat → Int32 → Int32 → Int32 → Int32 → Int32 → Wd → Option Int32
  | 0, _, _, _, _, _, _, _, _ => none
  | fuel + 1, k65, g0, b1, b2, b3, b4, b5, w =>
    if (iI 8) ≤ b5 then
      k65 b1 b2 b3 b4 w
    else
      ob (X0_nextMode w g0 b4 b5) fun r_2 =>
      if r_2 = (iI (-1)) then
        bnd (b5 + (iI 1)) fun x_3 =>
        (X3_oneUnitEarlier_L19 fuel k65 g0) b1 b2 b3 b4 x_3 w
      else
        if ((b1 >>> (r_2 &&& 31)) &&& (iI 1)) = (iI 1) then
          bnd (b2 ||| ((iI 1) <<< (b4 &&& 31))) fun x_5 =>
          bnd (b5 + (iI 1)) fun x_6 =>
          (X3_oneUnitEarlier_L19 fuel k65 g0) b1 x_5 b3 b4 x_6 w
        else
          bnd (b5 + (iI 1)) fun x_4 =>
          (X3_oneUnitEarlier_L19 fuel k65 g0) b1 b2 b3 b4 x_4 w
def X3_oneUnitEarlier_L65 (k10 : Int32 → Int32 → Int32 → Int32 → Wd → Option Int32) (g0 : Nat) (b1 : Int32) (b2 : Int32) (b3 : Int32) (b4 : Int32) (w : Wd) : Option Int32 :=
  bnd (b4 + (iI 1)) fun x_7 =>
  k10 b1 b2 b3 x_7 w
def X3_oneUnitEarlier_L10 : Nat → Nat → Int32 → Int32 → Int32 → Int32 → Wd → Option Int32
  | 0, _, _, _, _, _, _ => none
  | fuel + 1, g0, b1, b2, b3, b4, w =>
    if b3 ≤ b4 then
      some b2
    else
      (X3_oneUnitEarlier_L19 1000 (X3_oneUnitEarlier_L65 (X3_oneUnitEarlier_L10 fuel g0) g0) g0) b1 b2 b3 b4 (iI 0) w
def X3_oneUnitEarlier (w : Wd) (g0 : Nat) (a1 : Int32) : Option Int32 :=
  bnd (X0_modes w g0) fun x_1 =>
  (X3_oneUnitEarlier_L10 1000 g0) a1 (iI 0) x_1 (iI 0) w
def X3_lastHope_L5 : Nat → Nat → Int32 → Int32 → Wd → Option Int32
  | 0, _, _, _, _ => none
  | fuel + 1, g1, b3, b4, w =>
    if b4 < 0 then
      some (iI (-1))
    else
      ob (X5_stateAt w g1 b4) fun r_1 =>
      if r_1 = (iI (-1)) then
        ob (X3_oneUnitEarlier w (g1 - 4) b3) fun r_2 =>
        bnd (b4 + (iI (-1))) fun x_3 =>
        (X3_lastHope_L5 fuel g1) r_2 x_3 w
      else
        if ((b3 >>> ((X0_modeOf r_1) &&& 31)) &&& (iI 1)) = (iI 1) then
          some b4
        else
          ob (X3_oneUnitEarlier w (g1 - 4) b3) fun r_4 =>
          bnd (b4 + (iI (-1))) fun x_5 =>
          (X3_lastHope_L5 fuel g1) r_4 x_5 w
def X3_lastHope (w : Wd) (g1 : Nat) (a2 : Int32) : Option Int32 :=
  (X3_lastHope_L5 1000 g1) (iI 1) a2 w
def X4_reach (w : Wd) (a1 : Int32) (a2 : Int32) (a3 : Int32) : Option Wd :=
  if a1 < 0 then
    some w
  else
    if (iI 30) ≤ a1 then
      some w
    else
      ga w 10 2 30 a1 fun x_1 =>
      if x_1 = (iI (-2)) then
        if (iI 30) ≤ (rd w 10 0 4) then
          some w
        else
          pa w 10 2 30 a1 a2 fun w_2 =>
          pa w_2 10 3 30 a1 a3 fun w_3 =>
          pa w_3 10 1 30 (rd w_3 10 0 4) a1 fun w_4 =>
          bnd (wr w_4 10 0 4 ((rd w_4 10 0 4) + (iI 1))) fun w_5 =>
          some w_5
      else
        some w
def X4_expand_L3 : Nat → Nat → Nat → Int32 → Int32 → Wd → Option Wd
  | 0, _, _, _, _, _ => none
  | fuel + 1, g2, g3, b1, b4, w =>
    if (iI 8) ≤ b4 then
      some w
    else
      ob (X0_nextMode w g2 (b1 / (iI 6)) b4) fun r_1 =>
      if r_1 = (iI (-1)) then
        bnd (b4 + (iI 1)) fun x_2 =>
        (X4_expand_L3 fuel g2 g3) b1 x_2 w
      else
        ob (X0_nextMode w g3 (irm b1 (iI 6)) b4) fun r_3 =>
        if r_3 = (iI (-1)) then
          ob (X4_reach w ((r_1 * (iI 6)) + (iI 5)) b1 b4) fun w_6 =>
          bnd (b4 + (iI 1)) fun x_7 =>
          (X4_expand_L3 fuel g2 g3) b1 x_7 w_6
        else
          ob (X4_reach w ((r_1 * (iI 6)) + r_3) b1 b4) fun w_4 =>
          bnd (b4 + (iI 1)) fun x_5 =>
          (X4_expand_L3 fuel g2 g3) b1 x_5 w_4
def X4_expand (w : Wd) (a1 : Int32) (g2 : Nat) (g3 : Nat) : Option Wd :=
  (X4_expand_L3 1000 g2 g3) a1 (iI 0) w
def X4_parts (a0 : Int32) : Int32 :=
  if (a0 / (iI 6)) = 0 then
    if (irm a0 (iI 6)) = 0 then
      (iI 0)
    else
      (iI 1)
  else
    (iI 0)
theorem b_X4_parts (a0 : Int32) : isB (X4_parts a0) := by
  unfold X4_parts
  (repeat' split) <;> first | exact Or.inl rfl | exact Or.inr rfl
def X4_rowLength (w : Wd) : Int32 :=
  (rd w 10 0 5)
def X4_rowUnit (w : Wd) (a1 : Int32) : Option Int32 :=
  if a1 < 0 then
    some (iI (-101))
  else
    if (rd w 10 0 5) ≤ a1 then
      some (iI (-101))
    else
      if (iI 30) ≤ a1 then
        some (iI (-101))
      else
        ga w 10 4 30 a1 fun x_1 =>
        some x_1
def X4_writeRow_L4 : Nat → (Int32 → Int32 → Wd → Option Wd) → Int32 → Int32 → Int32 → Wd → Option Wd
  | 0, _, _, _, _, _ => none
  | fuel + 1, k43, b1, b2, b3, w =>
    if (iI 30) ≤ b2 then
      k43 b1 b2 w
    else
      if b3 < 0 then
        k43 b1 b2 w
      else
        if (iI 30) ≤ b3 then
          k43 b1 b2 w
        else
          ga w 10 2 30 b3 fun x_1 =>
          if x_1 = (iI (-1)) then
            k43 b1 b2 w
          else
            bnd (b2 + (iI 1)) fun x_2 =>
            ga w 10 2 30 b3 fun x_3 =>
            (X4_writeRow_L4 fuel k43) b1 x_2 x_3 w
def X4_writeRow_L50 : Nat → Int32 → Int32 → Int32 → Wd → Option Wd
  | 0, _, _, _, _ => none
  | fuel + 1, b2, b3, b4, w =>
    if b4 < 0 then
      bnd (wr w 10 0 5 b2) fun w_5 =>
      some w_5
    else
      if b3 < 0 then
        bnd (wr w 10 0 5 b2) fun w_6 =>
        some w_6
      else
        if (iI 30) ≤ b3 then
          bnd (wr w 10 0 5 b2) fun w_7 =>
          some w_7
        else
          ga w 10 3 30 b3 fun x_8 =>
          pa w 10 4 30 b4 x_8 fun w_9 =>
          ga w_9 10 2 30 b3 fun x_10 =>
          bnd (b4 + (iI (-1))) fun x_11 =>
          (X4_writeRow_L50 fuel) b2 x_10 x_11 w_9
def X4_writeRow_L43 (b1 : Int32) (b2 : Int32) (w : Wd) : Option Wd :=
  bnd (b2 - (iI 1)) fun x_4 =>
  (X4_writeRow_L50 1000) b2 b1 x_4 w
def X4_writeRow (w : Wd) (a1 : Int32) : Option Wd :=
  (X4_writeRow_L4 1000 (X4_writeRow_L43)) a1 (iI 0) a1 w
def X4_search_L28 : Nat → Nat → Nat → Int32 → Wd → Option (Int32 × Wd)
  | 0, _, _, _, _ => none
  | fuel + 1, g1, g2, b3, w =>
    if (rd w 10 0 4) ≤ b3 then
      some ((iI 0), w)
    else
      if (iI 30) ≤ b3 then
        some ((iI 0), w)
      else
        ga w 10 1 30 b3 fun x_5 =>
        if (X4_parts x_5) = 0 then
          ob (X4_expand w x_5 g1 g2) fun w_6 =>
          bnd (b3 + (iI 1)) fun x_7 =>
          (X4_search_L28 fuel g1 g2) x_7 w_6
        else
          ob (X4_writeRow w x_5) fun w_8 =>
          some ((iI 1), w_8)
def X4_search (w : Wd) (g1 : Nat) (g2 : Nat) : Option (Int32 × Wd) :=
  bnd (wfill w 10 2 30 (iI (-2))) fun w_1 =>
  bnd (wr w_1 10 0 4 (iI 0)) fun w_2 =>
  bnd (wr w_2 10 0 5 (iI 0)) fun w_3 =>
  ob (X4_reach w_3 (iI 0) (iI (-1)) (iI 0)) fun w_4 =>
  (X4_search_L28 1000 g1 g2) (iI 0) w_4
def X5_allowedUnits (w : Wd) (g : Nat) : Int32 :=
  (rd w g 0 5)
def X6_isSortPair (a0 : Int32) : Int32 :=
  if a0 < 0 then
    (iI 0)
  else
    if (iI 4) ≤ a0 then
      (iI 0)
    else
      (iI 1)
theorem b_X6_isSortPair (a0 : Int32) : isB (X6_isSortPair a0) := by
  unfold X6_isSortPair
  (repeat' split) <;> first | exact Or.inl rfl | exact Or.inr rfl
def X5_countPair (w : Wd) (g : Nat) (a1 : Int32) (a2 : Int32) : Option Wd :=
  if a1 = 0 then
    some w
  else
    bnd (X0_sortPair a1 a2) fun x_1 =>
    if (X6_isSortPair x_1) = 0 then
      some w
    else
      ga w g 3 4 x_1 fun x_2 =>
      pa w g 3 4 x_1 (x_2 + (iI 1)) fun w_3 =>
      some w_3
def X5_take_L67 (g : Nat) (b1 : Int32) (b2 : Int32) (b3 : Int32) (b4 : Int32) (w : Wd) : Option Wd :=
  pa w g 1 41 (b1 + (iI 1)) b4 fun w_7 =>
  ga w_7 g 2 41 b1 fun x_8 =>
  ob (X0_gain w_7 (g - 4) b3 b2) fun r_9 =>
  pa w_7 g 2 41 (b1 + (iI 1)) (x_8 + r_9) fun w_10 =>
  bnd (wr w_10 g 0 5 (b1 + (iI 1))) fun w_11 =>
  some w_11
def X5_take (w : Wd) (g : Nat) (a1 : Int32) (a2 : Int32) : Option Wd :=
  ga w g 1 41 a1 fun x_1 =>
  ob (X0_nextState w (g - 4) x_1 a2) fun r_2 =>
  if r_2 = (iI (-1)) then
    some w
  else
    bnd (irm x_1 (iI 3)) fun x_3 =>
    ob (X0_sortEnded w (g - 4) (X0_modeOf x_1) a2) fun r_4 =>
    if r_4 = 0 then
      (X5_take_L67 g) a1 a2 x_1 r_2 w
    else
      bnd (wr w g 0 4 ((rd w g 0 4) + (iI 1))) fun w_5 =>
      ob (X5_countPair w_5 g x_3 r_4) fun w_6 =>
      (X5_take_L67 g) a1 a2 x_1 r_2 w_6
def X5_follow_L47 : Nat → (Int32 → Wd → Option Wd) → Nat → Int32 → Int32 → Wd → Option Wd
  | 0, _, _, _, _, _ => none
  | fuel + 1, k78, g, b3, b4, w =>
    if b3 ≤ b4 then
      k78 b3 w
    else
      if (rd w g 0 5) = b4 then
        ga w 0 2 40 b4 fun x_7 =>
        ob (X5_take w g b4 x_7) fun w_8 =>
        bnd (b4 + (iI 1)) fun x_9 =>
        (X5_follow_L47 fuel k78 g) b3 x_9 w_8
      else
        k78 b3 w
def X5_follow_L78 (g : Nat) (b3 : Int32) (w : Wd) : Option Wd :=
  if (rd w g 0 5) = b3 then
    bnd (wr w g 0 6 (iI 1)) fun w_11 =>
    some w_11
  else
    bnd (wr w g 0 6 (iI 0)) fun w_10 =>
    some w_10
def X5_follow (w : Wd) (g : Nat) (a2 : Int32) : Option Wd :=
  bnd (wfill w g 3 4 (iI 0)) fun w_1 =>
  pa w_1 g 1 41 (iI 0) (iI 0) fun w_2 =>
  pa w_2 g 2 41 (iI 0) (iI 0) fun w_3 =>
  bnd (wr w_3 g 0 4 (iI 0)) fun w_4 =>
  bnd (wr w_4 g 0 5 (iI 0)) fun w_5 =>
  bnd (imin (imin a2 (iI 40)) (iI 40)) fun x_6 =>
  (X5_follow_L47 1000 (X5_follow_L78 g) g) x_6 (iI 0) w_5
def X5_isValid (w : Wd) (g : Nat) : Option Int32 :=
  if (rd w g 0 6) = 0 then
    some (iI 0)
  else
    ga w g 1 41 (rd w g 0 5) fun x_1 =>
    if (X0_modeOf x_1) = 0 then
      some (iI 1)
    else
      some (iI 0)
def X5_group (w : Wd) (g : Nat) : Option Int32 :=
  ob (X5_isValid w g) fun r_1 =>
  if r_1 = 0 then
    if (rd w g 0 6) = 0 then
      some (iI 2)
    else
      some (iI 1)
  else
    some (iI 0)
def X5_isAlive (w : Wd) (g : Nat) : Option Int32 :=
  zb (rd w g 0 6) <|
  some (rd w g 0 6)
def X5_pairCount (w : Wd) (g : Nat) (a1 : Int32) : Option Int32 :=
  if (X6_isSortPair a1) = 0 then
    some (iI 0)
  else
    ga w g 3 4 a1 fun x_1 =>
    some x_1
def X5_signCount (w : Wd) (g : Nat) : Int32 :=
  (rd w g 0 4)
def X5_weight (w : Wd) (g : Nat) : Option Int32 :=
  ga w g 2 41 (rd w g 0 5) fun x_1 =>
  some x_1
def X6_isCode (w : Wd) (a1 : Int32) : Int32 :=
  if a1 < 0 then
    (iI 0)
  else
    if (rd w 0 0 7) ≤ a1 then
      (iI 0)
    else
      (iI 1)
theorem b_X6_isCode (w : Wd) (a1 : Int32) : isB (X6_isCode w a1) := by
  unfold X6_isCode
  (repeat' split) <;> first | exact Or.inl rfl | exact Or.inr rfl
def X6_firstSure_L30 : Nat → (Int32 → Int32 → Wd → Option (Int32 × Wd)) → Int32 → Int32 → Int32 → Int32 → Wd → Option (Int32 × Wd)
  | 0, _, _, _, _, _, _ => none
  | fuel + 1, k102, b1, b2, b3, b4, w =>
    if (rd w 0 0 7) ≤ b4 then
      k102 b2 b3 w
    else
      if b2 < b3 then
        k102 b2 b3 w
      else
        if b4 = b1 then
          bnd (b4 + (iI 1)) fun x_3 =>
          (X6_firstSure_L30 fuel k102) b1 b2 b3 x_3 w
        else
          ix 4 b1 fun n_4 =>
          ix 4 b4 fun n_5 =>
          if b1 ≤ b4 then
            bI (X3_lastBeaten w (n_4 + 5) (n_5 + 5) (rd w 0 0 4) (iI 0)) fun r_6 w_7 =>
            bnd (imax b3 (r_6 + (iI 1))) fun x_8 =>
            bnd (b4 + (iI 1)) fun x_9 =>
            (X6_firstSure_L30 fuel k102) b1 b2 x_8 x_9 w_7
          else
            bI (X3_lastBeaten w (n_4 + 5) (n_5 + 5) (rd w 0 0 4) (iI 1)) fun r_10 w_11 =>
            bnd (imax b3 (r_10 + (iI 1))) fun x_12 =>
            bnd (b4 + (iI 1)) fun x_13 =>
            (X6_firstSure_L30 fuel k102) b1 b2 x_12 x_13 w_11
def X6_firstSure_L102 (b2 : Int32) (b3 : Int32) (w : Wd) : Option (Int32 × Wd) :=
  if b2 < b3 then
    some ((iI (-1)), w)
  else
    some (b3, w)
def X6_firstSure (w : Wd) (a1 : Int32) : Option (Int32 × Wd) :=
  ix 4 a1 fun n_1 =>
  ob (X3_lastHope w (n_1 + 5) (rd w 0 0 4)) fun r_2 =>
  if r_2 = (iI (-1)) then
    some ((iI (-1)), w)
  else
    (X6_firstSure_L30 1000 (X6_firstSure_L102)) a1 r_2 (iI 0) (iI 0) w
def X6_isAhead (w : Wd) (a1 : Int32) (a2 : Int32) : Option Int32 :=
  ix 4 a1 fun n_1 =>
  ix 4 a2 fun n_2 =>
  ob (X5_group w (n_1 + 5)) fun r_3 =>
  ob (X5_group w (n_2 + 5)) fun r_4 =>
  if r_3 = r_4 then
    ob (X5_weight w (n_1 + 5)) fun r_5 =>
    ob (X5_weight w (n_2 + 5)) fun r_6 =>
    if r_5 = r_6 then
      if a2 ≤ a1 then
        some (iI 0)
      else
        some (iI 1)
    else
      ob (X5_weight w (n_1 + 5)) fun r_7 =>
      ob (X5_weight w (n_2 + 5)) fun r_8 =>
      if r_7 ≤ r_8 then
        some (iI 0)
      else
        some (iI 1)
  else
    ob (X5_group w (n_1 + 5)) fun r_9 =>
    ob (X5_group w (n_2 + 5)) fun r_10 =>
    if r_10 ≤ r_9 then
      some (iI 0)
    else
      some (iI 1)
def X6_placeInRanking_L4 : Nat → Int32 → Int32 → Int32 → Wd → Option Int32
  | 0, _, _, _, _ => none
  | fuel + 1, b1, b2, b3, w =>
    if (rd w 0 0 7) ≤ b3 then
      some b2
    else
      ob (X6_isAhead w b3 b1) fun r_1 =>
      if r_1 = 0 then
        bnd (b3 + (iI 1)) fun x_2 =>
        (X6_placeInRanking_L4 fuel) b1 b2 x_2 w
      else
        bnd (b2 + (iI 1)) fun x_3 =>
        bnd (b3 + (iI 1)) fun x_4 =>
        (X6_placeInRanking_L4 fuel) b1 x_3 x_4 w
def X6_placeInRanking (w : Wd) (a1 : Int32) : Option Int32 :=
  (X6_placeInRanking_L4 1000) a1 (iI 0) (iI 0) w
def X6_about (w : Wd) (a1 : Int32) (a2 : Int32) : Option (Int32 × Wd) :=
  if (X6_isCode w a1) = 0 then
    some ((iI (-101)), w)
  else
    ix 4 a1 fun n_1 =>
    if a2 = (iI 0) then
      ix 4 a1 fun n_2 =>
      some ((X0_kind w (n_2 + 1)), w)
    else
      if a2 = (iI 1) then
        ob (X5_isAlive w (n_1 + 5)) fun r_3 =>
        if r_3 = 0 then
          some ((iI 0), w)
        else
          some ((iI 1), w)
      else
        if a2 = (iI 2) then
          ob (X5_isValid w (n_1 + 5)) fun r_4 =>
          if r_4 = 0 then
            some ((iI 0), w)
          else
            some ((iI 1), w)
        else
          if a2 = (iI 3) then
            some ((X5_signCount w (n_1 + 5)), w)
          else
            if a2 = (iI 4) then
              ob (X5_weight w (n_1 + 5)) fun r_5 =>
              some (r_5, w)
            else
              if a2 = (iI 5) then
                ob (X5_isAlive w (n_1 + 5)) fun r_6 =>
                if r_6 = 0 then
                  some ((X5_allowedUnits w (n_1 + 5)), w)
                else
                  some ((iI (-1)), w)
              else
                if a2 = (iI 6) then
                  bI (X6_firstSure w a1) fun r_7 w_8 =>
                  some (r_7, w_8)
                else
                  if a2 = (iI 7) then
                    ob (X6_placeInRanking w a1) fun r_9 =>
                    some (r_9, w)
                  else
                    some ((iI (-102)), w)
def X6_aliveCodes_L4 : Nat → Int32 → Int32 → Wd → Option Int32
  | 0, _, _, _ => none
  | fuel + 1, b1, b2, w =>
    if (rd w 0 0 7) ≤ b2 then
      some b1
    else
      ix 4 b2 fun n_1 =>
      ob (X5_isAlive w (n_1 + 5)) fun r_2 =>
      if r_2 = 0 then
        bnd (b2 + (iI 1)) fun x_3 =>
        (X6_aliveCodes_L4 fuel) b1 x_3 w
      else
        bnd (b1 + (iI 1)) fun x_4 =>
        bnd (b2 + (iI 1)) fun x_5 =>
        (X6_aliveCodes_L4 fuel) x_4 x_5 w
def X6_aliveCodes (w : Wd) : Option Int32 :=
  (X6_aliveCodes_L4 1000) (iI 0) (iI 0) w
def X6_apart (w : Wd) (a1 : Int32) (a2 : Int32) : Option (Int32 × Wd) :=
  if (X6_isCode w a1) = 0 then
    some ((iI (-101)), w)
  else
    if (X6_isCode w a2) = 0 then
      some ((iI (-101)), w)
    else
      ix 4 a1 fun n_1 =>
      ix 4 a2 fun n_2 =>
      bI (X4_search w (n_1 + 1) (n_2 + 1)) fun r_3 w_4 =>
      if r_3 = 0 then
        some ((iI (-1)), w_4)
      else
        some ((X4_rowLength w_4), w_4)
def X6_readAgain_L2 : Nat → Int32 → Wd → Option Wd
  | 0, _, _ => none
  | fuel + 1, b1, w =>
    if (rd w 0 0 7) ≤ b1 then
      some w
    else
      ix 4 b1 fun n_1 =>
      ob (X5_follow w (n_1 + 5) (rd w 0 0 3)) fun w_2 =>
      bnd (b1 + (iI 1)) fun x_3 =>
      (X6_readAgain_L2 fuel) x_3 w_2
def X6_readAgain (w : Wd) : Option Wd :=
  (X6_readAgain_L2 1000) (iI 0) w
def X6_back (w : Wd) : Option (Int32 × Wd) :=
  if 0 < (rd w 0 0 3) then
    bnd (wr w 0 0 3 ((rd w 0 0 3) - (iI 1))) fun w_1 =>
    ob (X6_readAgain w_1) fun w_2 =>
    some ((rd w_2 0 0 3), w_2)
  else
    some ((iI (-103)), w)
def X6_blank (w : Wd) : Option (Int32 × Wd) :=
  bnd (rd w 0 0 1) fun x_1 =>
  bnd (wr w 0 0 1 (iI 0)) fun w_2 =>
  some (x_1, w_2)
def X6_code (w : Wd) : Option (Int32 × Wd) :=
  ob (X2_isWhole w (rd w 0 0 1)) fun r_1 =>
  if r_1 = 0 then
    some ((iI (-103)), w)
  else
    if (rd w 0 0 7) < (iI 4) then
      bnd (rd w 0 0 7) fun x_2 =>
      ix 4 x_2 fun n_3 =>
      ob (X0_load w (n_3 + 1) (rd w 0 0 1)) fun w_4 =>
      ix 4 x_2 fun n_5 =>
      ob (X5_follow w_4 (n_5 + 5) (rd w_4 0 0 3)) fun w_6 =>
      bnd (wr w_6 0 0 7 ((rd w_6 0 0 7) + (iI 1))) fun w_7 =>
      bnd (wr w_7 0 0 8 ((rd w_7 0 0 8) + (iI 1))) fun w_8 =>
      bnd (wr w_8 0 0 1 (iI 0)) fun w_9 =>
      some (x_2, w_9)
    else
      some ((iI (-104)), w)
def X6_validCodes_L4 : Nat → Int32 → Int32 → Wd → Option Int32
  | 0, _, _, _ => none
  | fuel + 1, b1, b2, w =>
    if (rd w 0 0 7) ≤ b2 then
      some b1
    else
      ix 4 b2 fun n_1 =>
      ob (X5_isValid w (n_1 + 5)) fun r_2 =>
      if r_2 = 0 then
        bnd (b2 + (iI 1)) fun x_3 =>
        (X6_validCodes_L4 fuel) b1 x_3 w
      else
        bnd (b1 + (iI 1)) fun x_4 =>
        bnd (b2 + (iI 1)) fun x_5 =>
        (X6_validCodes_L4 fuel) x_4 x_5 w
def X6_validCodes (w : Wd) : Option Int32 :=
  (X6_validCodes_L4 1000) (iI 0) (iI 0) w
def X6_count (w : Wd) (a1 : Int32) : Option Int32 :=
  if a1 = (iI 0) then
    some (rd w 0 0 7)
  else
    if a1 = (iI 1) then
      some (rd w 0 0 3)
    else
      if a1 = (iI 2) then
        some (rd w 0 0 4)
      else
        if a1 = (iI 3) then
          ob (X6_aliveCodes w) fun r_1 =>
          some r_1
        else
          if a1 = (iI 4) then
            ob (X6_validCodes w) fun r_2 =>
            some r_2
          else
            if a1 = (iI 5) then
              some (rd w 0 0 1)
            else
              if a1 = (iI 6) then
                some (rd w 0 0 8)
              else
                if a1 = (iI 7) then
                  some (rd w 0 0 9)
                else
                  some (iI (-102))
def X6_cuts (w : Wd) (a1 : Int32) : Option (Int32 × Wd) :=
  if a1 < 0 then
    some ((iI (-102)), w)
  else
    if a1 ≤ (iI 1) then
      bI (X1_divide w (rd w 0 0 7) (rd w 0 0 3)) fun r_1 w_2 =>
      if r_1 = 0 then
        some ((iI (-103)), w_2)
      else
        if a1 = 0 then
          ob (X1_worth w_2) fun r_4 =>
          some (r_4, w_2)
        else
          ob (X1_pieceCount w_2) fun r_3 =>
          some (r_3, w_2)
    else
      some ((iI (-102)), w)
def X6_ink (w : Wd) (a1 : Int32) (a2 : Int32) : Option Int32 :=
  if (X6_isCode w a1) = 0 then
    some (iI (-101))
  else
    if a2 < 0 then
      some (iI (-101))
    else
      ix 4 a1 fun n_1 =>
      if a2 < (X0_textLength w (n_1 + 1)) then
        ix 4 a1 fun n_2 =>
        ob (X0_textAt w (n_2 + 1) a2) fun r_3 =>
        some r_3
      else
        some (iI (-101))
def X6_fold (a0 : Int64) (a2 : Int64) : Int64 :=
  (((31 : Int64) * a0) + a2)
def X6_pairs (w : Wd) (a1 : Int32) (a2 : Int32) : Option Int32 :=
  if (X6_isCode w a1) = 0 then
    some (iI (-101))
  else
    if (X6_isSortPair a2) = 0 then
      some (iI (-102))
    else
      ix 4 a1 fun n_1 =>
      ob (X5_pairCount w (n_1 + 5) a2) fun r_2 =>
      some r_2
def X6_rows (w : Wd) (a1 : Int32) (a2 : Int32) : Option (Int32 × Wd) :=
  if (X6_isCode w a1) = 0 then
    some ((iI (-101)), w)
  else
    if a2 < 0 then
      some ((iI (-102)), w)
    else
      if a2 ≤ (iI 9) then
        ix 4 a1 fun n_1 =>
        bI (X0_validRows w (n_1 + 1) a2) fun r_2 w_3 =>
        some (r_2, w_3)
      else
        some ((iI (-102)), w)
def X6_foldCode_L17 : Nat → (Int32 → Int64 → Wd → Option (Int64 × Wd)) → Int32 → Int64 → Int32 → Int32 → Wd → Option (Int64 × Wd)
  | 0, _, _, _, _, _, _ => none
  | fuel + 1, k45, b3, b4, b6, b7, w =>
    if b6 ≤ b7 then
      k45 b3 b4 w
    else
      ob (X6_ink w b3 b7) fun r_3 =>
      bnd (X6_fold b4 (r_3.toInt64)) fun x_4 =>
      bnd (b7 + (iI 1)) fun x_5 =>
      (X6_foldCode_L17 fuel k45) b3 x_4 b6 x_5 w
def X6_foldCode_L48 : Nat → (Int32 → Int64 → Wd → Option (Int64 × Wd)) → Int32 → Int64 → Int32 → Wd → Option (Int64 × Wd)
  | 0, _, _, _, _, _ => none
  | fuel + 1, k76, b3, b4, b7, w =>
    if (iI 8) ≤ b7 then
      k76 b3 b4 w
    else
      bI (X6_about w b3 b7) fun r_6 w_7 =>
      bnd (X6_fold b4 (r_6.toInt64)) fun x_8 =>
      bnd (b7 + (iI 1)) fun x_9 =>
      (X6_foldCode_L48 fuel k76) b3 x_8 x_9 w_7
def X6_foldCode_L79 : Nat → (Int32 → Int64 → Wd → Option (Int64 × Wd)) → Int32 → Int64 → Int32 → Wd → Option (Int64 × Wd)
  | 0, _, _, _, _, _ => none
  | fuel + 1, k106, b3, b4, b7, w =>
    if (iI 4) ≤ b7 then
      k106 b3 b4 w
    else
      ob (X6_pairs w b3 b7) fun r_10 =>
      bnd (X6_fold b4 (r_10.toInt64)) fun x_11 =>
      bnd (b7 + (iI 1)) fun x_12 =>
      (X6_foldCode_L79 fuel k106) b3 x_11 x_12 w
def X6_foldCode_L123 : Nat → Int32 → Int64 → Int32 → Wd → Option (Int64 × Wd)
  | 0, _, _, _, _ => none
  | fuel + 1, b3, b4, b7, w =>
    if (rd w 0 0 7) ≤ b7 then
      some (b4, w)
    else
      bI (X6_apart w b3 b7) fun r_16 w_17 =>
      bnd (X6_fold b4 (r_16.toInt64)) fun x_18 =>
      bnd (b7 + (iI 1)) fun x_19 =>
      (X6_foldCode_L123 fuel) b3 x_18 x_19 w_17
def X6_foldCode_L106 (b3 : Int32) (b4 : Int64) (w : Wd) : Option (Int64 × Wd) :=
  bI (X6_rows w b3 (iI 5)) fun r_13 w_14 =>
  bnd (X6_fold b4 (r_13.toInt64)) fun x_15 =>
  (X6_foldCode_L123 1000) b3 x_15 (iI 0) w_14
def X6_foldCode_L76 (b3 : Int32) (b4 : Int64) (w : Wd) : Option (Int64 × Wd) :=
  (X6_foldCode_L79 1000 (X6_foldCode_L106)) b3 b4 (iI 0) w
def X6_foldCode_L45 (b3 : Int32) (b4 : Int64) (w : Wd) : Option (Int64 × Wd) :=
  (X6_foldCode_L48 1000 (X6_foldCode_L76)) b3 b4 (iI 0) w
def X6_foldCode (w : Wd) (a1 : Int64) (a3 : Int32) : Option (Int64 × Wd) :=
  ix 4 a3 fun n_1 =>
  bnd (X0_textLength w (n_1 + 1)) fun x_2 =>
  (X6_foldCode_L17 1000 (X6_foldCode_L45)) a3 a1 x_2 (iI 0) w
def X6_rank_L2 : Nat → Int32 → Int32 → Wd → Option Int32
  | 0, _, _, _ => none
  | fuel + 1, b1, b2, w =>
    if (rd w 0 0 7) ≤ b2 then
      some (iI (-101))
    else
      ob (X6_placeInRanking w b2) fun r_1 =>
      if r_1 = b1 then
        some b2
      else
        bnd (b2 + (iI 1)) fun x_2 =>
        (X6_rank_L2 fuel) b1 x_2 w
def X6_rank (w : Wd) (a1 : Int32) : Option Int32 :=
  (X6_rank_L2 1000) a1 (iI 0) w
def X6_judged (w : Wd) : Option Int32 :=
  ob (X6_rank w (iI 0)) fun r_1 =>
  if (X6_isCode w r_1) = 0 then
    some (iI (-1))
  else
    ix 4 r_1 fun n_2 =>
    ob (X5_isValid w (n_2 + 5)) fun r_3 =>
    if r_3 = 0 then
      some (iI (-1))
    else
      some r_1
def X6_foldDivision_L71 : Nat → (Int64 → Int32 → Int32 → Wd → Option (Int64 × Wd)) → Int64 → Int32 → Int32 → Int32 → Wd → Option (Int64 × Wd)
  | 0, _, _, _, _, _, _ => none
  | fuel + 1, k100, b3, b5, b6, b7, w =>
    if (iI 3) ≤ b7 then
      k100 b3 b5 b6 w
    else
      ob (X1_propertyOf w b6 b7) fun r_7 =>
      bnd (X6_fold b3 (r_7.toInt64)) fun x_8 =>
      bnd (b7 + (iI 1)) fun x_9 =>
      (X6_foldDivision_L71 fuel k100) x_8 b5 b6 x_9 w
def X6_foldDivision_L100 (k61 : Int64 → Int32 → Int32 → Wd → Option (Int64 × Wd)) (b3 : Int64) (b5 : Int32) (b6 : Int32) (w : Wd) : Option (Int64 × Wd) :=
  bnd (b6 + (iI 1)) fun x_10 =>
  k61 b3 b5 x_10 w
def X6_foldDivision_L61 : Nat → Int64 → Int32 → Int32 → Wd → Option (Int64 × Wd)
  | 0, _, _, _, _ => none
  | fuel + 1, b3, b5, b6, w =>
    if b5 ≤ b6 then
      some (b3, w)
    else
      (X6_foldDivision_L71 1000 (X6_foldDivision_L100 (X6_foldDivision_L61 fuel))) b3 b5 b6 (iI 0) w
def X6_foldDivision (w : Wd) (a1 : Int64) : Option (Int64 × Wd) :=
  bI (X1_divide w (rd w 0 0 7) (rd w 0 0 3)) fun r_1 w_2 =>
  if r_1 = 0 then
    some (a1, w_2)
  else
    ob (X1_worth w_2) fun r_3 =>
    bnd (X6_fold a1 (r_3.toInt64)) fun x_4 =>
    ob (X1_pieceCount w_2) fun r_5 =>
    bnd (X6_fold x_4 (r_5.toInt64)) fun x_6 =>
    (X6_foldDivision_L61 1000) x_6 r_5 (iI 0) w_2
def X6_digest_L6 : Nat → (Int64 → Wd → Option (Int64 × Wd)) → Int64 → Int32 → Wd → Option (Int64 × Wd)
  | 0, _, _, _, _ => none
  | fuel + 1, k27, b1, b3, w =>
    if (rd w 0 0 7) ≤ b3 then
      k27 b1 w
    else
      bI (X6_foldCode w b1 b3) fun r_2 w_3 =>
      bnd (b3 + (iI 1)) fun x_4 =>
      (X6_digest_L6 fuel k27) r_2 x_4 w_3
def X6_digest_L29 : Nat → (Int64 → Wd → Option (Int64 × Wd)) → Int64 → Int32 → Wd → Option (Int64 × Wd)
  | 0, _, _, _, _ => none
  | fuel + 1, k55, b1, b3, w =>
    if (rd w 0 0 3) ≤ b3 then
      k55 b1 w
    else
      ga w 0 2 40 b3 fun x_5 =>
      bnd (X6_fold b1 (x_5.toInt64)) fun x_6 =>
      bnd (b3 + (iI 1)) fun x_7 =>
      (X6_digest_L29 fuel k55) x_6 x_7 w
def X6_digest_L73 : Nat → (Int64 → Wd → Option (Int64 × Wd)) → Int64 → Int32 → Wd → Option (Int64 × Wd)
  | 0, _, _, _, _ => none
  | fuel + 1, k99, b1, b3, w =>
    if (rd w 0 0 1) ≤ b3 then
      k99 b1 w
    else
      ga w 0 1 40 b3 fun x_12 =>
      bnd (X6_fold b1 (x_12.toInt64)) fun x_13 =>
      bnd (b3 + (iI 1)) fun x_14 =>
      (X6_digest_L73 fuel k99) x_13 x_14 w
def X6_digest_L101 : Nat → Int64 → Int32 → Wd → Option (Int64 × Wd)
  | 0, _, _, _ => none
  | fuel + 1, b1, b3, w =>
    if (iI 8) ≤ b3 then
      some (b1, w)
    else
      ob (X6_count w b3) fun r_15 =>
      bnd (X6_fold b1 (r_15.toInt64)) fun x_16 =>
      bnd (b3 + (iI 1)) fun x_17 =>
      (X6_digest_L101 fuel) x_16 x_17 w
def X6_digest_L99 (b1 : Int64) (w : Wd) : Option (Int64 × Wd) :=
  (X6_digest_L101 1000) b1 (iI 0) w
def X6_digest_L55 (b1 : Int64) (w : Wd) : Option (Int64 × Wd) :=
  ob (X6_judged w) fun r_8 =>
  bnd (X6_fold b1 (r_8.toInt64)) fun x_9 =>
  bI (X6_foldDivision w x_9) fun r_10 w_11 =>
  (X6_digest_L73 1000 (X6_digest_L99)) r_10 (iI 0) w_11
def X6_digest_L27 (b1 : Int64) (w : Wd) : Option (Int64 × Wd) :=
  (X6_digest_L29 1000 (X6_digest_L55)) b1 (iI 0) w
def X6_digest (w : Wd) : Option (Int64 × Wd) :=
  bnd (1511 : Int64) fun x_1 =>
  (X6_digest_L6 1000 (X6_digest_L27)) x_1 (iI 0) w
def X6_drop (w : Wd) : Option (Int32 × Wd) :=
  if 0 < (rd w 0 0 7) then
    bnd (wr w 0 0 7 ((rd w 0 0 7) - (iI 1))) fun w_1 =>
    some ((rd w_1 0 0 7), w_1)
  else
    some ((iI (-103)), w)
def X6_fault (w : Wd) : Option Int32 :=
  ob (X2_firstFault w (rd w 0 0 1)) fun r_1 =>
  some r_1
def X6_isUnit (a0 : Int32) : Int32 :=
  if a0 < 0 then
    (iI 0)
  else
    if (iI 8) ≤ a0 then
      (iI 0)
    else
      (iI 1)
theorem b_X6_isUnit (a0 : Int32) : isB (X6_isUnit a0) := by
  unfold X6_isUnit
  (repeat' split) <;> first | exact Or.inl rfl | exact Or.inr rfl
def X6_letCome (w : Wd) (a1 : Int32) : Option Wd :=
  if (iI 40) ≤ (rd w 0 0 3) then
    some w
  else
    pa w 0 2 40 (rd w 0 0 3) a1 fun w_1 =>
    bnd (wr w_1 0 0 3 ((rd w_1 0 0 3) + (iI 1))) fun w_2 =>
    bnd (wr w_2 0 0 9 ((rd w_2 0 0 9) + (iI 1))) fun w_3 =>
    some w_3
def X6_feed (w : Wd) (a1 : Int32) : Option (Int32 × Wd) :=
  if (X6_isUnit a1) = 0 then
    some ((iI (-102)), w)
  else
    if (rd w 0 0 3) < (rd w 0 0 4) then
      ob (X6_letCome w a1) fun w_1 =>
      ob (X6_readAgain w_1) fun w_2 =>
      some ((rd w_2 0 0 3), w_2)
    else
      some ((iI (-104)), w)
def X6_feeds_L2 : Nat → (Wd → Option (Int32 × Wd)) → Int32 → Wd → Option (Int32 × Wd)
  | 0, _, _, _ => none
  | fuel + 1, k34, b1, w =>
    if (rd w 0 0 1) ≤ b1 then
      k34 w
    else
      ga w 0 1 40 b1 fun x_1 =>
      if (X6_isUnit (x_1 - (iI 48))) = 0 then
        some ((iI (-103)), w)
      else
        bnd (b1 + (iI 1)) fun x_2 =>
        (X6_feeds_L2 fuel k34) x_2 w
def X6_feeds_L55 : Nat → (Wd → Option (Int32 × Wd)) → Int32 → Wd → Option (Int32 × Wd)
  | 0, _, _, _ => none
  | fuel + 1, k82, b1, w =>
    if (rd w 0 0 1) ≤ b1 then
      k82 w
    else
      ga w 0 1 40 b1 fun x_3 =>
      ob (X6_letCome w (x_3 - (iI 48))) fun w_4 =>
      bnd (b1 + (iI 1)) fun x_5 =>
      (X6_feeds_L55 fuel k82) x_5 w_4
def X6_feeds_L82 (w : Wd) : Option (Int32 × Wd) :=
  bnd (wr w 0 0 1 (iI 0)) fun w_6 =>
  ob (X6_readAgain w_6) fun w_7 =>
  some ((rd w_7 0 0 3), w_7)
def X6_feeds_L34 (w : Wd) : Option (Int32 × Wd) :=
  if (rd w 0 0 1) ≤ ((rd w 0 0 4) - (rd w 0 0 3)) then
    (X6_feeds_L55 1000 (X6_feeds_L82)) (iI 0) w
  else
    some ((iI (-104)), w)
def X6_feeds (w : Wd) : Option (Int32 × Wd) :=
  (X6_feeds_L2 1000 (X6_feeds_L34)) (iI 0) w
def X6_letter (w : Wd) (a1 : Int32) : Option (Int32 × Wd) :=
  if a1 < (iI 32) then
    some ((iI (-102)), w)
  else
    if a1 ≤ (iI 126) then
      if (rd w 0 0 1) < (iI 40) then
        pa w 0 1 40 (rd w 0 0 1) a1 fun w_1 =>
        bnd (wr w_1 0 0 1 ((rd w_1 0 0 1) + (iI 1))) fun w_2 =>
        some ((rd w_2 0 0 1), w_2)
      else
        some ((iI (-104)), w)
    else
      some ((iI (-102)), w)
def X6_open (w : Wd) (a1 : Int32) : Option (Int32 × Wd) :=
  if a1 < (iI 1) then
    some ((iI (-102)), w)
  else
    if a1 ≤ (iI 40) then
      bnd (rd w 0 0 3) fun x_1 =>
      bnd (wr w 0 0 4 a1) fun w_2 =>
      bnd (wr w_2 0 0 3 (iI 0)) fun w_3 =>
      ob (X6_readAgain w_3) fun w_4 =>
      some (x_1, w_4)
    else
      some ((iI (-102)), w)
def X6_piece (w : Wd) (a1 : Int32) (a2 : Int32) : Option (Int32 × Wd) :=
  bI (X1_divide w (rd w 0 0 7) (rd w 0 0 3)) fun r_1 w_2 =>
  if r_1 = 0 then
    some ((iI (-101)), w_2)
  else
    if a1 < 0 then
      some ((iI (-101)), w_2)
    else
      ob (X1_pieceCount w_2) fun r_3 =>
      if a1 < r_3 then
        if a2 < 0 then
          some ((iI (-102)), w_2)
        else
          if a2 ≤ (iI 2) then
            ob (X1_propertyOf w_2 a1 a2) fun r_4 =>
            some (r_4, w_2)
          else
            some ((iI (-102)), w_2)
      else
        some ((iI (-101)), w_2)
def X6_points (w : Wd) (a1 : Int32) (a2 : Int32) : Option Int32 :=
  if (X6_isCode w a1) = 0 then
    some (iI (-101))
  else
    if (X6_isSortPair a2) = 0 then
      some (iI (-102))
    else
      ix 4 a1 fun n_1 =>
      ob (X0_pointsOf w (n_1 + 1) a2) fun r_2 =>
      some r_2
def X6_tells (w : Wd) (a1 : Int32) (a2 : Int32) (a3 : Int32) : Option (Int32 × Wd) :=
  if (X6_isCode w a1) = 0 then
    some ((iI (-101)), w)
  else
    if (X6_isCode w a2) = 0 then
      some ((iI (-101)), w)
    else
      ix 4 a1 fun n_1 =>
      ix 4 a2 fun n_2 =>
      bI (X4_search w (n_1 + 1) (n_2 + 1)) fun r_3 w_4 =>
      if r_3 = 0 then
        some ((iI (-101)), w_4)
      else
        if a3 < 0 then
          some ((iI (-101)), w_4)
        else
          if a3 < (X4_rowLength w_4) then
            ob (X4_rowUnit w_4 a3) fun r_5 =>
            some (r_5, w_4)
          else
            some ((iI (-101)), w_4)
def X6_unit (w : Wd) (a1 : Int32) : Option Int32 :=
  if a1 < 0 then
    some (iI (-101))
  else
    if a1 < (rd w 0 0 3) then
      ga w 0 2 40 a1 fun x_1 =>
      some x_1
    else
      some (iI (-101))
def X7_within (a0 : Int32) (a1 : Int32) (a2 : Int32) : Int32 :=
  if a0 < a1 then
    (iI 0)
  else
    if a2 < a0 then
      (iI 0)
    else
      (iI 1)
theorem b_X7_within (a0 : Int32) (a1 : Int32) (a2 : Int32) : isB (X7_within a0 a1 a2) := by
  unfold X7_within
  (repeat' split) <;> first | exact Or.inl rfl | exact Or.inr rfl
def X7_isCode (w : Wd) (a1 : Int32) : Int32 :=
  (X7_within a1 (iI 0) ((rd w 12 0 0) - (iI 1)))
theorem b_X7_isCode (w : Wd) (a1 : Int32) : isB (X7_isCode w a1) := by
  unfold X7_isCode
  (repeat' split) <;> first | exact Or.inl rfl | exact Or.inr rfl | apply b_X7_within
def X7_begin_L27 : Nat → Int32 → Wd → Option Wd
  | 0, _, _ => none
  | fuel + 1, b1, w =>
    if (iI 4) ≤ b1 then
      some w
    else
      pa w 12 7 4 b1 (iI 0) fun w_6 =>
      bnd (b1 + (iI 1)) fun x_7 =>
      (X7_begin_L27 fuel) x_7 w_6
def X7_begin (w : Wd) : Option Wd :=
  bnd (wr w 12 0 14 (iI 0)) fun w_1 =>
  bnd (wr w_1 12 0 15 (iI (-1))) fun w_2 =>
  bnd (wr w_2 12 0 16 (iI 0)) fun w_3 =>
  bnd (wr w_3 12 0 17 (iI 0)) fun w_4 =>
  bnd (wr w_4 12 0 18 (iI 0)) fun w_5 =>
  (X7_begin_L27 1000) (iI 0) w_5
def X7_ends (w : Wd) (a1 : Int32) (a2 : Int32) : Option (Int32 × Wd) :=
  if a1 = (iI 2) then
    bnd (wr w 12 0 13 (iI (-1))) fun w_2 =>
    if a1 = (iI 2) then
      some ((iI (-1)), w_2)
    else
      some (a2, w_2)
  else
    bnd (wr w 12 0 13 a1) fun w_1 =>
    if a1 = (iI 2) then
      some ((iI (-1)), w_1)
    else
      some (a2, w_1)
def X7_stepCounted (w : Wd) (a1 : Int32) (a2 : Int32) : Option (Int32 × Wd) :=
  if a2 ≤ 0 then
    if a1 = (iI 7) then
      some ((iI (-1)), w)
    else
      if (iI 2) < a1 then
        some ((a1 - (iI 2)), w)
      else
        bI (X7_ends w a1 (iI 0)) fun r_1 w_2 =>
        some (r_1, w_2)
  else
    if a1 = (iI 7) then
      if (iI 3) ≤ a2 then
        bnd (wr w 12 0 13 (iI (-1))) fun w_3 =>
        if (iI 3) ≤ a2 then
          some ((a2 - (iI 2)), w_3)
        else
          some ((iI 0), w_3)
      else
        bnd (wr w 12 0 13 (a2 - (iI 1))) fun w_4 =>
        if (iI 3) ≤ a2 then
          some ((a2 - (iI 2)), w_4)
        else
          some ((iI 0), w_4)
    else
      some ((iI (-1)), w)
def X7_stepTurned (w : Wd) (a1 : Int32) (a2 : Int32) (a3 : Int32) : Option (Int32 × Wd) :=
  ga w 12 2 4 a1 fun x_1 =>
  if a3 = x_1 then
    some (((iI 1) - a2), w)
  else
    ga w 12 3 64 ((((iI 16) * a1) + ((iI 8) * a2)) + a3) fun x_2 =>
    bI (X7_ends w x_2 a2) fun r_3 w_4 =>
    some (r_3, w_4)
def X7_step (w : Wd) (a1 : Int32) (a2 : Int32) (a3 : Int32) : Option (Int32 × Wd) :=
  bnd (wr w 12 0 13 (iI (-1))) fun w_1 =>
  ga w_1 12 3 64 (((iI 16) * a1) + a3) fun x_2 =>
  ga w_1 12 1 4 a1 fun x_3 =>
  if x_3 = (iI 1) then
    if a2 = 0 then
      ga w_1 12 2 4 a1 fun x_6 =>
      if a3 < x_6 then
        bI (X7_ends w_1 x_2 (iI 0)) fun r_7 w_8 =>
        some (r_7, w_8)
      else
        some ((iI 1), w_1)
    else
      bI (X7_ends w_1 x_2 (iI 0)) fun r_4 w_5 =>
      some (r_4, w_5)
  else
    if x_3 = (iI 2) then
      bI (X7_stepCounted w_1 x_2 a2) fun r_9 w_10 =>
      some (r_9, w_10)
    else
      if x_3 = (iI 3) then
        bI (X7_stepTurned w_1 a1 a2 a3) fun r_11 w_12 =>
        some (r_11, w_12)
      else
        bI (X7_ends w_1 x_2 (iI 0)) fun r_13 w_14 =>
        some (r_13, w_14)
def X7_goOn_L31 (b1 : Int32) (b3 : Int32) (w : Wd) : Option Wd :=
  if b3 = (iI (-1)) then
    some w
  else
    if (rd w 12 0 13) = (iI (-1)) then
      some w
    else
      if (rd w 12 0 15) = (iI (-1)) then
        bnd (wr w 12 0 16 ((rd w 12 0 16) + (iI 1))) fun w_5 =>
        bnd (wr w_5 12 0 15 (rd w_5 12 0 13)) fun w_6 =>
        some w_6
      else
        ga w 12 7 4 (((iI 2) * (rd w 12 0 15)) + (rd w 12 0 13)) fun x_7 =>
        pa w 12 7 4 (((iI 2) * (rd w 12 0 15)) + (rd w 12 0 13)) (x_7 + (iI 1)) fun w_8 =>
        ga w_8 12 4 16 ((((iI 4) * b1) + ((iI 2) * (rd w_8 12 0 15))) + (rd w_8 12 0 13)) fun x_9 =>
        bnd (wr w_8 12 0 17 ((rd w_8 12 0 17) + x_9)) fun w_10 =>
        bnd (wr w_10 12 0 16 ((rd w_10 12 0 16) + (iI 1))) fun w_11 =>
        bnd (wr w_11 12 0 15 (rd w_11 12 0 13)) fun w_12 =>
        some w_12
def X7_goOn (w : Wd) (a1 : Int32) (a2 : Int32) : Option Wd :=
  bI (X7_step w a1 (rd w 12 0 14) a2) fun r_1 w_2 =>
  bnd (wr w_2 12 0 14 r_1) fun w_3 =>
  if r_1 = (iI (-1)) then
    (X7_goOn_L31) a1 r_1 w_3
  else
    bnd (wr w_3 12 0 18 ((rd w_3 12 0 18) + (iI 1))) fun w_4 =>
    (X7_goOn_L31) a1 r_1 w_4
def X7_goAlong_L6 : Nat → Int32 → Int32 → Int32 → Wd → Option Wd
  | 0, _, _, _, _ => none
  | fuel + 1, b1, b2, b3, w =>
    if b2 ≤ b3 then
      some w
    else
      if (rd w 12 0 14) = (iI (-1)) then
        some w
      else
        ga w 12 5 40 b3 fun x_2 =>
        ob (X7_goOn w b1 x_2) fun w_3 =>
        bnd (b3 + (iI 1)) fun x_4 =>
        (X7_goAlong_L6 fuel) b1 b2 x_4 w_3
def X7_goAlong (w : Wd) (a1 : Int32) (a2 : Int32) : Option Wd :=
  ob (X7_begin w) fun w_1 =>
  (X7_goAlong_L6 1000) a1 a2 (iI 0) w_1
def X7_isAlive (w : Wd) (a1 : Int32) : Option (Int32 × Wd) :=
  ob (X7_goAlong w a1 (rd w 12 0 8)) fun w_1 =>
  if (rd w_1 12 0 14) = (iI (-1)) then
    some ((iI 0), w_1)
  else
    some ((iI 1), w_1)
def X7_isValid (w : Wd) (a1 : Int32) : Option (Int32 × Wd) :=
  ob (X7_goAlong w a1 (rd w 12 0 8)) fun w_1 =>
  if (rd w_1 12 0 14) = 0 then
    some ((iI 1), w_1)
  else
    some ((iI 0), w_1)
def X7_signsOf (w : Wd) (a1 : Int32) : Option (Int32 × Wd) :=
  ob (X7_goAlong w a1 (rd w 12 0 8)) fun w_1 =>
  some ((rd w_1 12 0 16), w_1)
def X7_weightOf (w : Wd) (a1 : Int32) : Option (Int32 × Wd) :=
  ob (X7_goAlong w a1 (rd w 12 0 8)) fun w_1 =>
  some ((rd w_1 12 0 17), w_1)
def X7_firstBad (w : Wd) (a1 : Int32) : Option (Int32 × Wd) :=
  ob (X7_goAlong w a1 (rd w 12 0 8)) fun w_1 =>
  if (rd w_1 12 0 14) = (iI (-1)) then
    some ((rd w_1 12 0 18), w_1)
  else
    some ((iI (-1)), w_1)
def X7_isState (a0 : Int32) (a1 : Int32) : Int32 :=
  if a0 = (iI 2) then
    (iI 1)
  else
    if a1 = 0 then
      (iI 1)
    else
      if a0 = 0 then
        (iI 0)
      else
        if a1 = (iI 1) then
          (iI 1)
        else
          (iI 0)
theorem b_X7_isState (a0 : Int32) (a1 : Int32) : isB (X7_isState a0 a1) := by
  unfold X7_isState
  (repeat' split) <;> first | exact Or.inl rfl | exact Or.inr rfl
def X7_goBackCan_L16 : Nat → (Int32 → Int32 → Wd → Option Wd) → Int32 → Int32 → Int32 → Wd → Option Wd
  | 0, _, _, _, _, _ => none
  | fuel + 1, k86, b1, b2, b3, w =>
    if (iI 8) ≤ b3 then
      k86 b1 b2 w
    else
      ga w 12 1 4 b1 fun x_2 =>
      if (X7_isState x_2 b2) = 0 then
        k86 b1 b2 w
      else
        bI (X7_step w b1 b2 b3) fun r_3 w_4 =>
        ga w_4 12 12 5 b2 fun x_5 =>
        if x_5 = 0 then
          if r_3 = (iI (-1)) then
            pa w_4 12 12 5 b2 (nz (iI 0)) fun w_8 =>
            bnd (b3 + (iI 1)) fun x_9 =>
            (X7_goBackCan_L16 fuel k86) b1 b2 x_9 w_8
          else
            ga w_4 12 11 5 r_3 fun x_10 =>
            if x_10 = 0 then
              pa w_4 12 12 5 b2 (nz (iI 0)) fun w_11 =>
              bnd (b3 + (iI 1)) fun x_12 =>
              (X7_goBackCan_L16 fuel k86) b1 b2 x_12 w_11
            else
              pa w_4 12 12 5 b2 (nz (iI 1)) fun w_13 =>
              bnd (b3 + (iI 1)) fun x_14 =>
              (X7_goBackCan_L16 fuel k86) b1 b2 x_14 w_13
        else
          pa w_4 12 12 5 b2 (nz (iI 1)) fun w_6 =>
          bnd (b3 + (iI 1)) fun x_7 =>
          (X7_goBackCan_L16 fuel k86) b1 b2 x_7 w_6
def X7_goBackCan_L86 (k2 : Int32 → Int32 → Wd → Option Wd) (b1 : Int32) (b2 : Int32) (w : Wd) : Option Wd :=
  bnd (b2 + (iI 1)) fun x_15 =>
  k2 b1 x_15 w
def X7_goBackCan_L2 : Nat → (Wd → Option Wd) → Int32 → Int32 → Wd → Option Wd
  | 0, _, _, _, _ => none
  | fuel + 1, k92, b1, b2, w =>
    if (iI 5) ≤ b2 then
      k92 w
    else
      pa w 12 12 5 b2 (nz (iI 0)) fun w_1 =>
      (X7_goBackCan_L16 1000 (X7_goBackCan_L86 (X7_goBackCan_L2 fuel k92))) b1 b2 (iI 0) w_1
def X7_goBackCan_L94 : Nat → Int32 → Wd → Option Wd
  | 0, _, _ => none
  | fuel + 1, b2, w =>
    if (iI 5) ≤ b2 then
      some w
    else
      ga w 12 12 5 b2 fun x_16 =>
      pa w 12 11 5 b2 (nz x_16) fun w_17 =>
      bnd (b2 + (iI 1)) fun x_18 =>
      (X7_goBackCan_L94 fuel) x_18 w_17
def X7_goBackCan_L92 (w : Wd) : Option Wd :=
  (X7_goBackCan_L94 1000) (iI 0) w
def X7_goBackCan (w : Wd) (a1 : Int32) : Option Wd :=
  (X7_goBackCan_L2 1000 (X7_goBackCan_L92)) a1 (iI 0) w
def X7_layCan_L2 : Nat → (Int32 → Wd → Option Wd) → Int32 → Int32 → Wd → Option Wd
  | 0, _, _, _, _ => none
  | fuel + 1, k28, b1, b2, w =>
    if (iI 5) ≤ b2 then
      k28 b1 w
    else
      if b2 = 0 then
        pa w 12 11 5 b2 (nz (iI 1)) fun w_3 =>
        bnd (b2 + (iI 1)) fun x_4 =>
        (X7_layCan_L2 fuel k28) b1 x_4 w_3
      else
        pa w 12 11 5 b2 (nz (iI 0)) fun w_1 =>
        bnd (b2 + (iI 1)) fun x_2 =>
        (X7_layCan_L2 fuel k28) b1 x_2 w_1
def X7_layCan_L30 : Nat → Int32 → Int32 → Wd → Option Wd
  | 0, _, _, _ => none
  | fuel + 1, b1, b2, w =>
    if (rd w 12 0 7) < b2 then
      some w
    else
      bnd ((rd w 12 0 7) - b2) fun x_5 =>
      if (rd w 12 0 8) < x_5 then
        ob (X7_goBackCan w b1) fun w_6 =>
        bnd (b2 + (iI 1)) fun x_7 =>
        (X7_layCan_L30 fuel) b1 x_7 w_6
      else
        ob (X7_goAlong w b1 x_5) fun w_8 =>
        if (rd w_8 12 0 14) = (iI (-1)) then
          pa w_8 12 10 41 x_5 (nz (iI 0)) fun w_9 =>
          ob (X7_goBackCan w_9 b1) fun w_10 =>
          bnd (b2 + (iI 1)) fun x_11 =>
          (X7_layCan_L30 fuel) b1 x_11 w_10
        else
          ga w_8 12 11 5 (rd w_8 12 0 14) fun x_12 =>
          if x_12 = 0 then
            pa w_8 12 10 41 x_5 (nz (iI 0)) fun w_13 =>
            ob (X7_goBackCan w_13 b1) fun w_14 =>
            bnd (b2 + (iI 1)) fun x_15 =>
            (X7_layCan_L30 fuel) b1 x_15 w_14
          else
            pa w_8 12 10 41 x_5 (nz (iI 1)) fun w_16 =>
            ob (X7_goBackCan w_16 b1) fun w_17 =>
            bnd (b2 + (iI 1)) fun x_18 =>
            (X7_layCan_L30 fuel) b1 x_18 w_17
def X7_layCan_L28 (b1 : Int32) (w : Wd) : Option Wd :=
  (X7_layCan_L30 1000) b1 (iI 0) w
def X7_layCan (w : Wd) (a1 : Int32) : Option Wd :=
  (X7_layCan_L2 1000 (X7_layCan_L28)) a1 (iI 0) w
def X7_beginBack_L2 : Nat → Int32 → Wd → Option Wd
  | 0, _, _ => none
  | fuel + 1, b1, w =>
    if (iI 225) ≤ b1 then
      some w
    else
      if (b1 / (iI 45)) = 0 then
        if ((irm b1 (iI 15)) / (iI 3)) = 0 then
          pa w 12 8 225 b1 (iI 0) fun w_5 =>
          bnd (b1 + (iI 1)) fun x_6 =>
          (X7_beginBack_L2 fuel) x_6 w_5
        else
          pa w 12 8 225 b1 (iI (-100000)) fun w_3 =>
          bnd (b1 + (iI 1)) fun x_4 =>
          (X7_beginBack_L2 fuel) x_4 w_3
      else
        pa w 12 8 225 b1 (iI (-100000)) fun w_1 =>
        bnd (b1 + (iI 1)) fun x_2 =>
        (X7_beginBack_L2 fuel) x_2 w_1
def X7_beginBack (w : Wd) : Option Wd :=
  (X7_beginBack_L2 1000) (iI 0) w
def X7_gain (w : Wd) (a1 : Int32) (a2 : Int32) : Option Int32 :=
  if a2 = (iI (-1)) then
    some (iI 0)
  else
    if (rd w 12 0 13) = (iI (-1)) then
      some (iI 0)
    else
      ga w 12 4 16 ((((iI 4) * a1) + ((iI 2) * a2)) + (rd w 12 0 13)) fun x_1 =>
      some x_1
def X7_placeOf (a0 : Int32) (a1 : Int32) : Int32 :=
  ((((iI 3) * a0) + a1) + (iI 1))
def X7_placeBehind (w : Wd) (a1 : Int32) (a2 : Int32) (a3 : Int32) : Option (Int32 × Wd) :=
  bnd ((irm a2 (iI 3)) - (iI 1)) fun x_1 =>
  bI (X7_step w a1 (a2 / (iI 3)) a3) fun r_2 w_3 =>
  if r_2 = (iI (-1)) then
    some ((iI (-1)), w_3)
  else
    ob (X7_gain w_3 a1 x_1) fun r_4 =>
    bnd (wr w_3 12 0 25 r_4) fun w_5 =>
    if (rd w_5 12 0 13) = (iI (-1)) then
      some ((X7_placeOf r_2 x_1), w_5)
    else
      some ((X7_placeOf r_2 (rd w_5 12 0 13)), w_5)
def X7_moreBy (w : Wd) (a1 : Int32) (a2 : Int32) (a3 : Int32) (a4 : Int32) : Option (Int32 × Wd) :=
  bI (X7_placeBehind w a1 (a3 / (iI 15)) a4) fun r_1 w_2 =>
  if r_1 = (iI (-1)) then
    some ((iI (-100000)), w_2)
  else
    bnd (rd w_2 12 0 25) fun x_3 =>
    bI (X7_placeBehind w_2 a2 (irm a3 (iI 15)) a4) fun r_4 w_5 =>
    if r_4 = (iI (-1)) then
      some ((iI (-100000)), w_5)
    else
      ga w_5 12 8 225 (((iI 15) * r_1) + r_4) fun x_6 =>
      if x_6 = (iI (-100000)) then
        some ((iI (-100000)), w_5)
      else
        ga w_5 12 8 225 (((iI 15) * r_1) + r_4) fun x_7 =>
        some (((x_7 + (rd w_5 12 0 25)) - x_3), w_5)
def X7_goBack_L61 : Nat → (Int32 → Int32 → Int32 → Wd → Option Wd) → Int32 → Int32 → Int32 → Int32 → Int32 → Wd → Option Wd
  | 0, _, _, _, _, _, _, _ => none
  | fuel + 1, k118, b1, b2, b3, b4, b5, w =>
    if (iI 8) ≤ b5 then
      k118 b1 b2 b3 w
    else
      if b4 = 0 then
        k118 b1 b2 b3 w
      else
        bI (X7_moreBy w b1 b2 b3 b5) fun r_4 w_5 =>
        ga w_5 12 9 225 b3 fun x_6 =>
        if r_4 ≤ x_6 then
          ga w_5 12 9 225 b3 fun x_7 =>
          pa w_5 12 9 225 b3 x_7 fun w_8 =>
          bnd (b5 + (iI 1)) fun x_9 =>
          (X7_goBack_L61 fuel k118) b1 b2 b3 b4 x_9 w_8
        else
          pa w_5 12 9 225 b3 r_4 fun w_10 =>
          bnd (b5 + (iI 1)) fun x_11 =>
          (X7_goBack_L61 fuel k118) b1 b2 b3 b4 x_11 w_10
def X7_goBack_L118 (k2 : Int32 → Int32 → Int32 → Wd → Option Wd) (b1 : Int32) (b2 : Int32) (b3 : Int32) (w : Wd) : Option Wd :=
  bnd (b3 + (iI 1)) fun x_12 =>
  k2 b1 b2 x_12 w
def X7_goBack_L2 : Nat → (Wd → Option Wd) → Int32 → Int32 → Int32 → Wd → Option Wd
  | 0, _, _, _, _, _ => none
  | fuel + 1, k124, b1, b2, b3, w =>
    if (iI 225) ≤ b3 then
      k124 w
    else
      pa w 12 9 225 b3 (iI (-100000)) fun w_1 =>
      ga w_1 12 1 4 b1 fun x_2 =>
      if (X7_isState x_2 (b3 / (iI 45))) = 0 then
        (X7_goBack_L61 1000 (X7_goBack_L118 (X7_goBack_L2 fuel k124))) b1 b2 b3 (iI 0) (iI 0) w_1
      else
        ga w_1 12 1 4 b2 fun x_3 =>
        if (X7_isState x_3 ((irm b3 (iI 15)) / (iI 3))) = 0 then
          (X7_goBack_L61 1000 (X7_goBack_L118 (X7_goBack_L2 fuel k124))) b1 b2 b3 (iI 0) (iI 0) w_1
        else
          (X7_goBack_L61 1000 (X7_goBack_L118 (X7_goBack_L2 fuel k124))) b1 b2 b3 (iI 1) (iI 0) w_1
def X7_goBack_L126 : Nat → Int32 → Wd → Option Wd
  | 0, _, _ => none
  | fuel + 1, b3, w =>
    if (iI 225) ≤ b3 then
      some w
    else
      ga w 12 9 225 b3 fun x_13 =>
      pa w 12 8 225 b3 x_13 fun w_14 =>
      bnd (b3 + (iI 1)) fun x_15 =>
      (X7_goBack_L126 fuel) x_15 w_14
def X7_goBack_L124 (w : Wd) : Option Wd :=
  (X7_goBack_L126 1000) (iI 0) w
def X7_goBack (w : Wd) (a1 : Int32) (a2 : Int32) : Option Wd :=
  (X7_goBack_L2 1000 (X7_goBack_L124)) a1 a2 (iI 0) w
def X7_canLose (w : Wd) (a1 : Int32) (a2 : Int32) (a3 : Int32) : Option (Int32 × Wd) :=
  ob (X7_goAlong w a1 a3) fun w_1 =>
  if (rd w_1 12 0 14) = (iI (-1)) then
    some ((iI 0), w_1)
  else
    bnd (X7_placeOf (rd w_1 12 0 14) (rd w_1 12 0 15)) fun x_2 =>
    bnd (rd w_1 12 0 17) fun x_3 =>
    ob (X7_goAlong w_1 a2 a3) fun w_4 =>
    if (rd w_4 12 0 14) = (iI (-1)) then
      some ((iI 0), w_4)
    else
      ga w_4 12 8 225 (((iI 15) * x_2) + (X7_placeOf (rd w_4 12 0 14) (rd w_4 12 0 15))) fun x_5 =>
      if x_5 = (iI (-100000)) then
        some ((iI 0), w_4)
      else
        bnd (((rd w_4 12 0 17) + x_5) - x_3) fun x_6 =>
        if 0 < x_6 then
          some ((iI 1), w_4)
        else
          if x_6 = 0 then
            if a1 ≤ a2 then
              some ((iI 0), w_4)
            else
              some ((iI 1), w_4)
          else
            some ((iI 0), w_4)
def X7_layLoses_L24 (k6 : Int32 → Int32 → Int32 → Wd → Option Wd) (b1 : Int32) (b2 : Int32) (b3 : Int32) (w : Wd) : Option Wd :=
  bnd ((rd w 12 0 7) - b3) fun x_3 =>
  if (rd w 12 0 8) < x_3 then
    bnd (b3 + (iI 1)) fun x_4 =>
    k6 b1 b2 x_4 w
  else
    ga w 12 10 41 x_3 fun x_5 =>
    if x_5 = 0 then
      pa w 12 10 41 x_3 (nz (iI 0)) fun w_6 =>
      bnd (b3 + (iI 1)) fun x_7 =>
      k6 b1 b2 x_7 w_6
    else
      bI (X7_canLose w b1 b2 x_3) fun r_8 w_9 =>
      if r_8 = 0 then
        pa w_9 12 10 41 x_3 (nz (iI 1)) fun w_12 =>
        bnd (b3 + (iI 1)) fun x_13 =>
        k6 b1 b2 x_13 w_12
      else
        pa w_9 12 10 41 x_3 (nz (iI 0)) fun w_10 =>
        bnd (b3 + (iI 1)) fun x_11 =>
        k6 b1 b2 x_11 w_10
def X7_layLoses_L6 : Nat → Int32 → Int32 → Int32 → Wd → Option Wd
  | 0, _, _, _, _ => none
  | fuel + 1, b1, b2, b3, w =>
    if (rd w 12 0 7) < b3 then
      some w
    else
      if b3 ≤ 0 then
        (X7_layLoses_L24 (X7_layLoses_L6 fuel)) b1 b2 b3 w
      else
        ob (X7_goBack w b1 b2) fun w_2 =>
        (X7_layLoses_L24 (X7_layLoses_L6 fuel)) b1 b2 b3 w_2
def X7_layLoses (w : Wd) (a1 : Int32) (a2 : Int32) : Option Wd :=
  ob (X7_beginBack w) fun w_1 =>
  (X7_layLoses_L6 1000) a1 a2 (iI 0) w_1
def X7_sureAt_L7 : Nat → (Wd → Option (Int32 × Wd)) → Int32 → Int32 → Wd → Option (Int32 × Wd)
  | 0, _, _, _, _ => none
  | fuel + 1, k32, b1, b2, w =>
    if (rd w 12 0 0) ≤ b2 then
      k32 w
    else
      if b2 = b1 then
        bnd (b2 + (iI 1)) fun x_2 =>
        (X7_sureAt_L7 fuel k32) b1 x_2 w
      else
        ob (X7_layLoses w b1 b2) fun w_3 =>
        bnd (b2 + (iI 1)) fun x_4 =>
        (X7_sureAt_L7 fuel k32) b1 x_4 w_3
def X7_sureAt_L34 : Nat → Int32 → Wd → Option (Int32 × Wd)
  | 0, _, _ => none
  | fuel + 1, b2, w =>
    if (rd w 12 0 8) < b2 then
      some ((iI (-1)), w)
    else
      ga w 12 10 41 b2 fun x_5 =>
      if x_5 = 0 then
        bnd (b2 + (iI 1)) fun x_6 =>
        (X7_sureAt_L34 fuel) x_6 w
      else
        some (b2, w)
def X7_sureAt_L32 (w : Wd) : Option (Int32 × Wd) :=
  (X7_sureAt_L34 1000) (iI 0) w
def X7_sureAt (w : Wd) (a1 : Int32) : Option (Int32 × Wd) :=
  ob (X7_layCan w a1) fun w_1 =>
  (X7_sureAt_L7 1000 (X7_sureAt_L32)) a1 (iI 0) w_1
def X7_rankKey (w : Wd) (a1 : Int32) : Option (Int32 × Wd) :=
  bI (X7_isValid w a1) fun r_1 w_2 =>
  if r_1 = 0 then
    if (rd w_2 12 0 14) = (iI (-1)) then
      some ((((iI 1000) * (iI 0)) + (rd w_2 12 0 17)), w_2)
    else
      some ((((iI 1000) * (iI 1)) + (rd w_2 12 0 17)), w_2)
  else
    some ((((iI 1000) * (iI 2)) + (rd w_2 12 0 17)), w_2)
def X7_isAhead (w : Wd) (a1 : Int32) (a2 : Int32) : Option (Int32 × Wd) :=
  bI (X7_rankKey w a1) fun r_1 w_2 =>
  bI (X7_rankKey w_2 a2) fun r_3 w_4 =>
  if r_3 < r_1 then
    some ((iI 1), w_4)
  else
    if r_1 = r_3 then
      if a2 ≤ a1 then
        some ((iI 0), w_4)
      else
        some ((iI 1), w_4)
    else
      some ((iI 0), w_4)
def X7_rankOf_L4 : Nat → Int32 → Int32 → Int32 → Wd → Option (Int32 × Wd)
  | 0, _, _, _, _ => none
  | fuel + 1, b1, b2, b3, w =>
    if (rd w 12 0 0) ≤ b3 then
      some (b2, w)
    else
      if b3 = b1 then
        bnd (b2 + (iI 0)) fun x_1 =>
        bnd (b3 + (iI 1)) fun x_2 =>
        (X7_rankOf_L4 fuel) b1 x_1 x_2 w
      else
        bI (X7_isAhead w b3 b1) fun r_3 w_4 =>
        if r_3 = 0 then
          bnd (b2 + (iI 0)) fun x_5 =>
          bnd (b3 + (iI 1)) fun x_6 =>
          (X7_rankOf_L4 fuel) b1 x_5 x_6 w_4
        else
          bnd (b2 + (iI 1)) fun x_7 =>
          bnd (b3 + (iI 1)) fun x_8 =>
          (X7_rankOf_L4 fuel) b1 x_7 x_8 w_4
def X7_rankOf (w : Wd) (a1 : Int32) : Option (Int32 × Wd) :=
  (X7_rankOf_L4 1000) a1 (iI 0) (iI 0) w
def X7_aboutNow (w : Wd) (a1 : Int32) (a2 : Int32) : Option (Int32 × Wd) :=
  if a2 = (iI 0) then
    ga w 12 1 4 a1 fun x_1 =>
    some (x_1, w)
  else
    if a2 = (iI 1) then
      bI (X7_isAlive w a1) fun r_2 w_3 =>
      if r_2 = 0 then
        some ((iI 0), w_3)
      else
        some ((iI 1), w_3)
    else
      if a2 = (iI 2) then
        bI (X7_isValid w a1) fun r_4 w_5 =>
        if r_4 = 0 then
          some ((iI 0), w_5)
        else
          some ((iI 1), w_5)
      else
        if a2 = (iI 3) then
          bI (X7_signsOf w a1) fun r_6 w_7 =>
          some (r_6, w_7)
        else
          if a2 = (iI 4) then
            bI (X7_weightOf w a1) fun r_8 w_9 =>
            some (r_8, w_9)
          else
            if a2 = (iI 5) then
              bI (X7_firstBad w a1) fun r_10 w_11 =>
              some (r_10, w_11)
            else
              if a2 = (iI 6) then
                bI (X7_sureAt w a1) fun r_12 w_13 =>
                some (r_12, w_13)
              else
                bI (X7_rankOf w a1) fun r_14 w_15 =>
                some (r_14, w_15)
def X7_about (w : Wd) (a1 : Int32) (a2 : Int32) : Option (Int32 × Wd) :=
  if (X7_isCode w a1) = 0 then
    some ((iI (-101)), w)
  else
    if (X7_within a2 (iI 0) (iI 7)) = 0 then
      some ((iI (-102)), w)
    else
      bI (X7_aboutNow w a1 a2) fun r_1 w_2 =>
      some (r_1, w_2)
def X7_aliveMany_L4 : Nat → Int32 → Int32 → Wd → Option (Int32 × Wd)
  | 0, _, _, _ => none
  | fuel + 1, b1, b2, w =>
    if (rd w 12 0 0) ≤ b2 then
      some (b1, w)
    else
      bI (X7_isAlive w b2) fun r_1 w_2 =>
      if r_1 = 0 then
        bnd (b1 + (iI 0)) fun x_3 =>
        bnd (b2 + (iI 1)) fun x_4 =>
        (X7_aliveMany_L4 fuel) x_3 x_4 w_2
      else
        bnd (b1 + (iI 1)) fun x_5 =>
        bnd (b2 + (iI 1)) fun x_6 =>
        (X7_aliveMany_L4 fuel) x_5 x_6 w_2
def X7_aliveMany (w : Wd) : Option (Int32 × Wd) :=
  (X7_aliveMany_L4 1000) (iI 0) (iI 0) w
def X7_isBoth (w : Wd) (a1 : Int32) (a2 : Int32) (a3 : Int32) : Option Int32 :=
  ga w 12 1 4 a1 fun x_1 =>
  if (X7_isState x_1 (a3 / (iI 6))) = 0 then
    some (iI 0)
  else
    if (irm a3 (iI 6)) = (iI 5) then
      some (iI 1)
    else
      ga w 12 1 4 a2 fun x_2 =>
      if (X7_isState x_2 (irm a3 (iI 6))) = 0 then
        some (iI 0)
      else
        some (iI 1)
def X7_bothBehind (w : Wd) (a1 : Int32) (a2 : Int32) (a3 : Int32) (a4 : Int32) : Option (Int32 × Wd) :=
  bI (X7_step w a1 (a3 / (iI 6)) a4) fun r_1 w_2 =>
  if r_1 = (iI (-1)) then
    some ((iI (-1)), w_2)
  else
    if (irm a3 (iI 6)) = (iI 5) then
      if (iI (-1)) = (iI (-1)) then
        some ((((iI 6) * r_1) + (iI 5)), w_2)
      else
        some ((((iI 6) * r_1) + (iI (-1))), w_2)
    else
      bI (X7_step w_2 a2 (irm a3 (iI 6)) a4) fun r_3 w_4 =>
      if r_3 = (iI (-1)) then
        some ((((iI 6) * r_1) + (iI 5)), w_4)
      else
        some ((((iI 6) * r_1) + r_3), w_4)
def X7_goesTo_L6 : Nat → Int32 → Int32 → Int32 → Int32 → Int32 → Int32 → Wd → Option (Int32 × Wd)
  | 0, _, _, _, _, _, _, _ => none
  | fuel + 1, b1, b2, b3, b4, b5, b6, w =>
    if (iI 8) ≤ b6 then
      zb b5 <|
      some (b5, w)
    else
      if b5 = 0 then
        bI (X7_bothBehind w b1 b2 b3 b6) fun r_1 w_2 =>
        if r_1 = (iI (-1)) then
          bnd (b6 + (iI 1)) fun x_3 =>
          (X7_goesTo_L6 fuel) b1 b2 b3 b4 (iI 0) x_3 w_2
        else
          if ((b4 >>> (r_1 &&& 31)) &&& (iI 1)) = (iI 1) then
            bnd (b6 + (iI 1)) fun x_5 =>
            (X7_goesTo_L6 fuel) b1 b2 b3 b4 (iI 1) x_5 w_2
          else
            bnd (b6 + (iI 1)) fun x_4 =>
            (X7_goesTo_L6 fuel) b1 b2 b3 b4 (iI 0) x_4 w_2
      else
        zb b5 <|
        some (b5, w)
def X7_goesTo (w : Wd) (a1 : Int32) (a2 : Int32) (a3 : Int32) (a4 : Int32) : Option (Int32 × Wd) :=
  (X7_goesTo_L6 1000) a1 a2 a3 a4 (iI 0) (iI 0) w
def X7_layParts_L9 : Nat → (Int32 → Int32 → Wd → Option Wd) → Int32 → Int32 → Int32 → Wd → Option Wd
  | 0, _, _, _, _, _ => none
  | fuel + 1, k32, b1, b2, b3, w =>
    if (iI 5) < b3 then
      k32 b1 b2 w
    else
      ga w 12 15 31 (iI 0) fun x_2 =>
      pa w 12 15 31 (iI 0) (x_2 ||| ((iI 1) <<< (b3 &&& 31))) fun w_3 =>
      bnd (b3 + (iI 1)) fun x_4 =>
      (X7_layParts_L9 fuel k32) b1 b2 x_4 w_3
def X7_layParts_L92 (k50 : Int32 → Int32 → Int32 → Int32 → Wd → Option Wd) (b1 : Int32) (b2 : Int32) (b3 : Int32) (b4 : Int32) (t0 : Int32) (w : Wd) : Option Wd :=
  ga w 12 15 31 b3 fun x_11 =>
  if t0 = 0 then
    pa w 12 15 31 b3 (x_11 ||| (iI 0)) fun w_12 =>
    bnd (b4 + (iI 1)) fun x_13 =>
    k50 b1 b2 b3 x_13 w_12
  else
    pa w 12 15 31 b3 (x_11 ||| ((iI 1) <<< (b4 &&& 31))) fun w_14 =>
    bnd (b4 + (iI 1)) fun x_15 =>
    k50 b1 b2 b3 x_15 w_14
def X7_layParts_L50 : Nat → (Int32 → Int32 → Int32 → Wd → Option Wd) → Int32 → Int32 → Int32 → Int32 → Wd → Option Wd
  | 0, _, _, _, _, _, _ => none
  | fuel + 1, k122, b1, b2, b3, b4, w =>
    if (iI 30) ≤ b4 then
      k122 b1 b2 b3 w
    else
      ob (X7_isBoth w b1 b2 b4) fun r_6 =>
      if r_6 = 0 then
        (X7_layParts_L92 (X7_layParts_L50 fuel k122)) b1 b2 b3 b4 (iI 0) w
      else
        ga w 12 15 31 (b3 - (iI 1)) fun x_7 =>
        bI (X7_goesTo w b1 b2 b4 x_7) fun r_8 w_9 =>
        if r_8 = 0 then
          (X7_layParts_L92 (X7_layParts_L50 fuel k122)) b1 b2 b3 b4 (iI 0) w_9
        else
          (X7_layParts_L92 (X7_layParts_L50 fuel k122)) b1 b2 b3 b4 (iI 1) w_9
def X7_layParts_L122 (k34 : Int32 → Int32 → Int32 → Wd → Option Wd) (b1 : Int32) (b2 : Int32) (b3 : Int32) (w : Wd) : Option Wd :=
  bnd (b3 + (iI 1)) fun x_10 =>
  k34 b1 b2 x_10 w
def X7_layParts_L34 : Nat → Int32 → Int32 → Int32 → Wd → Option Wd
  | 0, _, _, _, _ => none
  | fuel + 1, b1, b2, b3, w =>
    if (iI 30) < b3 then
      some w
    else
      pa w 12 15 31 b3 (iI 0) fun w_5 =>
      (X7_layParts_L50 1000 (X7_layParts_L122 (X7_layParts_L34 fuel))) b1 b2 b3 (iI 0) w_5
def X7_layParts_L32 (b1 : Int32) (b2 : Int32) (w : Wd) : Option Wd :=
  (X7_layParts_L34 1000) b1 b2 (iI 1) w
def X7_layParts (w : Wd) (a1 : Int32) (a2 : Int32) : Option Wd :=
  pa w 12 15 31 (iI 0) (iI 0) fun w_1 =>
  (X7_layParts_L9 1000 (X7_layParts_L32)) a1 a2 (iI 1) w_1
def X7_apartNow_L8 : Nat → (Int32 → Wd → Option (Int32 × Wd)) → Int32 → Wd → Option (Int32 × Wd)
  | 0, _, _, _ => none
  | fuel + 1, k31, b3, w =>
    if (iI 30) < b3 then
      k31 b3 w
    else
      ga w 12 15 31 b3 fun x_2 =>
      if (x_2 &&& (iI 1)) = 0 then
        bnd (b3 + (iI 1)) fun x_3 =>
        (X7_apartNow_L8 fuel k31) x_3 w
      else
        k31 b3 w
def X7_apartNow_L31 (b3 : Int32) (w : Wd) : Option (Int32 × Wd) :=
  if (iI 30) < b3 then
    some ((iI (-1)), w)
  else
    some (b3, w)
def X7_apartNow (w : Wd) (a1 : Int32) (a2 : Int32) : Option (Int32 × Wd) :=
  ob (X7_layParts w a1 a2) fun w_1 =>
  (X7_apartNow_L8 1000 (X7_apartNow_L31)) (iI 0) w_1
def X7_apart (w : Wd) (a1 : Int32) (a2 : Int32) : Option (Int32 × Wd) :=
  if (X7_isCode w a1) = 0 then
    some ((iI (-101)), w)
  else
    if (X7_isCode w a2) = 0 then
      some ((iI (-101)), w)
    else
      bI (X7_apartNow w a1 a2) fun r_1 w_2 =>
      some (r_1, w_2)
def X7_tryPiece_L171 (k181 : Int32 → Int32 → Int32 → Int32 → Int32 → Wd → Option Wd) (b1 : Int32) (b2 : Int32) (b3 : Int32) (b4 : Int32) (b5 : Int32) (b6 : Int32) (b7 : Int32) (w : Wd) : Option Wd :=
  if b7 = 0 then
    if b6 = 0 then
      some w
    else
      k181 b1 b2 b3 b4 b5 w
  else
    k181 b1 b2 b3 b4 b5 w
def X7_tryPiece_L181 (b1 : Int32) (b2 : Int32) (b3 : Int32) (b4 : Int32) (b5 : Int32) (w : Wd) : Option Wd :=
  pa w 12 16 41 b1 b4 fun w_16 =>
  pa w_16 12 17 41 b1 b5 fun w_17 =>
  pa w_17 12 18 41 b1 b2 fun w_18 =>
  pa w_18 12 19 41 b1 b3 fun w_19 =>
  pa w_19 12 20 41 b1 (rd w_19 12 0 17) fun w_20 =>
  some w_20
def X7_tryPiece_L136 (b1 : Int32) (b2 : Int32) (b3 : Int32) (b4 : Int32) (b5 : Int32) (b6 : Int32) (t0 : Int32) (w : Wd) : Option Wd :=
  ga w 12 16 41 b1 fun x_13 =>
  if x_13 < b4 then
    (X7_tryPiece_L181) b1 b2 b3 b4 b5 w
  else
    ga w 12 16 41 b1 fun x_14 =>
    if b4 = x_14 then
      ga w 12 17 41 b1 fun x_15 =>
      if b5 < x_15 then
        (X7_tryPiece_L181) b1 b2 b3 b4 b5 w
      else
        (X7_tryPiece_L171 (X7_tryPiece_L181)) b1 b2 b3 b4 b5 b6 t0 w
    else
      (X7_tryPiece_L171 (X7_tryPiece_L181)) b1 b2 b3 b4 b5 b6 t0 w
def X7_tryPiece_L97 (b1 : Int32) (b2 : Int32) (b3 : Int32) (b4 : Int32) (b5 : Int32) (t0 : Int32) (w : Wd) : Option Wd :=
  ga w 12 16 41 b1 fun x_10 =>
  if b4 = x_10 then
    ga w 12 17 41 b1 fun x_11 =>
    if b5 = x_11 then
      ga w 12 18 41 b1 fun x_12 =>
      if x_12 ≤ b2 then
        (X7_tryPiece_L136) b1 b2 b3 b4 b5 t0 (iI 0) w
      else
        (X7_tryPiece_L136) b1 b2 b3 b4 b5 t0 (iI 1) w
    else
      (X7_tryPiece_L136) b1 b2 b3 b4 b5 t0 (iI 0) w
  else
    (X7_tryPiece_L136) b1 b2 b3 b4 b5 t0 (iI 0) w
def X7_tryPiece_L37 (b1 : Int32) (b2 : Int32) (b3 : Int32) (t0 : Int32) (t1 : Int32) (w : Wd) : Option Wd :=
  bnd (t1 - t0) fun x_3 =>
  ga w 12 17 41 b2 fun x_4 =>
  bnd ((iI 1) + x_4) fun x_5 =>
  ga w 12 16 41 b1 fun x_6 =>
  if x_3 = x_6 then
    ga w 12 17 41 b1 fun x_7 =>
    if x_5 = x_7 then
      ga w 12 18 41 b1 fun x_8 =>
      if b2 = x_8 then
        ga w 12 19 41 b1 fun x_9 =>
        if x_9 ≤ b3 then
          (X7_tryPiece_L97) b1 b2 b3 x_3 x_5 (iI 0) w
        else
          (X7_tryPiece_L97) b1 b2 b3 x_3 x_5 (iI 1) w
      else
        (X7_tryPiece_L97) b1 b2 b3 x_3 x_5 (iI 0) w
    else
      (X7_tryPiece_L97) b1 b2 b3 x_3 x_5 (iI 0) w
  else
    (X7_tryPiece_L97) b1 b2 b3 x_3 x_5 (iI 0) w
def X7_tryPiece (w : Wd) (a1 : Int32) (a2 : Int32) (a3 : Int32) : Option Wd :=
  ga w 12 16 41 a2 fun x_1 =>
  if x_1 = (iI (-100000)) then
    some w
  else
    ga w 12 16 41 a2 fun x_2 =>
    if (rd w 12 0 8) ≤ a2 then
      (X7_tryPiece_L37) a1 a2 a3 (iI 0) ((rd w 12 0 17) + x_2) w
    else
      (X7_tryPiece_L37) a1 a2 a3 (iI 7) ((rd w 12 0 17) + x_2) w
def X7_layCuts_L62 : Nat → (Int32 → Int32 → Wd → Option Wd) → Int32 → Int32 → Int32 → Wd → Option Wd
  | 0, _, _, _, _, _ => none
  | fuel + 1, k111, b1, b2, b3, w =>
    if (rd w 12 0 8) ≤ b3 then
      k111 b1 b2 w
    else
      if (rd w 12 0 14) = (iI (-1)) then
        k111 b1 b2 w
      else
        ga w 12 5 40 b3 fun x_8 =>
        ob (X7_goOn w b2 x_8) fun w_9 =>
        if (rd w_9 12 0 14) = 0 then
          ob (X7_tryPiece w_9 b1 (b3 + (iI 1)) b2) fun w_11 =>
          bnd (b3 + (iI 1)) fun x_12 =>
          (X7_layCuts_L62 fuel k111) b1 b2 x_12 w_11
        else
          bnd (b3 + (iI 1)) fun x_10 =>
          (X7_layCuts_L62 fuel k111) b1 b2 x_10 w_9
def X7_layCuts_L111 (k48 : Int32 → Int32 → Wd → Option Wd) (b1 : Int32) (b2 : Int32) (w : Wd) : Option Wd :=
  bnd (b2 + (iI 1)) fun x_13 =>
  k48 b1 x_13 w
def X7_layCuts_L48 : Nat → (Int32 → Wd → Option Wd) → Int32 → Int32 → Wd → Option Wd
  | 0, _, _, _, _ => none
  | fuel + 1, k117, b1, b2, w =>
    if (rd w 12 0 0) ≤ b2 then
      k117 b1 w
    else
      ob (X7_begin w) fun w_6 =>
      (X7_layCuts_L62 1000 (X7_layCuts_L111 (X7_layCuts_L48 fuel k117))) b1 b2 b1 w_6
def X7_layCuts_L117 (k27 : Int32 → Wd → Option Wd) (b1 : Int32) (w : Wd) : Option Wd :=
  bnd (b1 + (iI (-1))) fun x_7 =>
  k27 x_7 w
def X7_layCuts_L27 : Nat → Int32 → Wd → Option Wd
  | 0, _, _ => none
  | fuel + 1, b1, w =>
    if b1 < 0 then
      some w
    else
      pa w 12 16 41 b1 (iI (-100000)) fun w_4 =>
      pa w_4 12 17 41 b1 (iI 0) fun w_5 =>
      (X7_layCuts_L48 1000 (X7_layCuts_L117 (X7_layCuts_L27 fuel))) b1 (iI 0) w_5
def X7_layCuts (w : Wd) : Option Wd :=
  pa w 12 16 41 (rd w 12 0 8) (iI 0) fun w_1 =>
  pa w_1 12 17 41 (rd w_1 12 0 8) (iI 0) fun w_2 =>
  bnd ((rd w_2 12 0 8) - (iI 1)) fun x_3 =>
  (X7_layCuts_L27 1000) x_3 w_2
def X7_areCuts (w : Wd) : Option (Int32 × Wd) :=
  ob (X7_layCuts w) fun w_1 =>
  ga w_1 12 16 41 (iI 0) fun x_2 =>
  if x_2 = (iI (-100000)) then
    some ((iI 0), w_1)
  else
    some ((iI 1), w_1)
def X7_back (w : Wd) : Option (Int32 × Wd) :=
  if (rd w 12 0 8) = 0 then
    some ((iI (-103)), w)
  else
    bnd (wr w 12 0 8 ((rd w 12 0 8) - (iI 1))) fun w_1 =>
    some ((rd w_1 12 0 8), w_1)
def X7_blank (w : Wd) : Option (Int32 × Wd) :=
  bnd (rd w 12 0 10) fun x_1 =>
  bnd (wr w 12 0 10 (iI 0)) fun w_2 =>
  some (x_1, w_2)
def X7_kindBy (a0 : Int32) : Int32 :=
  if a0 = (iI 99) then
    (iI 2)
  else
    if a0 = (iI 102) then
      (iI 0)
    else
      if a0 = (iI 112) then
        (iI 1)
      else
        if a0 = (iI 116) then
          (iI 3)
        else
          (iI (-1))
def X7_digitsOf (a0 : Int32) : Int32 :=
  if a0 = (iI 1) then
    (iI 1)
  else
    if a0 = (iI 3) then
      (iI 1)
    else
      (iI 0)
def X7_marksOf (a0 : Int32) : Int32 :=
  if a0 = (iI 3) then
    (iI 16)
  else
    (iI 8)
def X7_markBy (a0 : Int32) (a1 : Int32) : Int32 :=
  if a1 = (iI 33) then
    (iI 2)
  else
    if a1 = (iI 43) then
      if a0 = (iI 2) then
        (iI 7)
      else
        (iI (-1))
    else
      if a1 = (iI 97) then
        (iI 0)
      else
        if a1 = (iI 98) then
          (iI 1)
        else
          if a1 = (iI 99) then
            if a0 = (iI 2) then
              (((iI 3) + a1) - (iI 99))
            else
              (iI (-1))
          else
            if a1 = (iI 100) then
              if a0 = (iI 2) then
                (((iI 3) + a1) - (iI 99))
              else
                (iI (-1))
            else
              if a1 = (iI 101) then
                if a0 = (iI 2) then
                  (((iI 3) + a1) - (iI 99))
                else
                  (iI (-1))
              else
                if a1 = (iI 102) then
                  if a0 = (iI 2) then
                    (((iI 3) + a1) - (iI 99))
                  else
                    (iI (-1))
                else
                  (iI (-1))
def X7_fitsAt (w : Wd) (a1 : Int32) (a2 : Int32) : Option (Int32 × Wd) :=
  if a1 = 0 then
    bnd (wr w 12 0 12 (X7_kindBy a2)) fun w_2 =>
    if (rd w_2 12 0 12) = (iI (-1)) then
      some ((iI 0), w_2)
    else
      some ((iI 1), w_2)
  else
    bnd ((a1 - (iI 1)) - (X7_digitsOf (rd w 12 0 12))) fun x_1 =>
    if 0 ≤ x_1 then
      if (X7_marksOf (rd w 12 0 12)) ≤ x_1 then
        if ((X7_marksOf (rd w 12 0 12)) + (iI 4)) ≤ x_1 then
          some ((iI 0), w)
        else
          if (X7_within a2 (iI 48) (iI 57)) = 0 then
            some ((iI 0), w)
          else
            some ((iI 1), w)
      else
        if (X7_markBy (rd w 12 0 12) a2) = (iI (-1)) then
          some ((iI 0), w)
        else
          some ((iI 1), w)
    else
      if (rd w 12 0 12) = (iI 1) then
        some ((X7_within a2 (iI 49) (iI 55)), w)
      else
        some ((X7_within a2 (iI 48) (iI 55)), w)
def X7_read_L2 : Nat → Int32 → Wd → Option (Int32 × Wd)
  | 0, _, _ => none
  | fuel + 1, b1, w =>
    if (rd w 12 0 10) ≤ b1 then
      some (b1, w)
    else
      ga w 12 6 40 b1 fun x_1 =>
      bI (X7_fitsAt w b1 x_1) fun r_2 w_3 =>
      if r_2 = 0 then
        some (b1, w_3)
      else
        bnd (b1 + (iI 1)) fun x_4 =>
        (X7_read_L2 fuel) x_4 w_3
def X7_read (w : Wd) : Option (Int32 × Wd) :=
  (X7_read_L2 1000) (iI 0) w
def X7_lettersOf (a0 : Int32) : Int32 :=
  ((((iI 1) + (X7_digitsOf a0)) + (X7_marksOf a0)) + (iI 4))
def X7_layCode_L46 : Nat → (Int32 → Int32 → Wd → Option Wd) → Int32 → Int32 → Int32 → Wd → Option Wd
  | 0, _, _, _, _, _ => none
  | fuel + 1, k99, b1, b2, b3, w =>
    if (iI 16) ≤ b3 then
      k99 b1 b2 w
    else
      if (X7_marksOf (rd w 12 0 12)) ≤ b3 then
        pa w 12 3 64 (((iI 16) * b1) + b3) (iI 0) fun w_6 =>
        bnd (b3 + (iI 1)) fun x_7 =>
        (X7_layCode_L46 fuel k99) b1 b2 x_7 w_6
      else
        ga w 12 6 40 (b2 + b3) fun x_8 =>
        pa w 12 3 64 (((iI 16) * b1) + b3) (X7_markBy (rd w 12 0 12) x_8) fun w_9 =>
        bnd (b3 + (iI 1)) fun x_10 =>
        (X7_layCode_L46 fuel k99) b1 b2 x_10 w_9
def X7_layCode_L101 : Nat → Int32 → Int32 → Int32 → Wd → Option Wd
  | 0, _, _, _, _ => none
  | fuel + 1, b1, b2, b3, w =>
    if (iI 4) ≤ b3 then
      some w
    else
      ga w 12 6 40 ((b2 + (X7_marksOf (rd w 12 0 12))) + b3) fun x_11 =>
      pa w 12 4 16 (((iI 4) * b1) + b3) (x_11 - (iI 48)) fun w_12 =>
      bnd (b3 + (iI 1)) fun x_13 =>
      (X7_layCode_L101 fuel) b1 b2 x_13 w_12
def X7_layCode_L99 (b1 : Int32) (b2 : Int32) (w : Wd) : Option Wd :=
  (X7_layCode_L101 1000) b1 b2 (iI 0) w
def X7_layCode (w : Wd) (a1 : Int32) : Option Wd :=
  bnd ((iI 1) + (X7_digitsOf (rd w 12 0 12))) fun x_1 =>
  pa w 12 1 4 a1 (rd w 12 0 12) fun w_2 =>
  if x_1 = (iI 2) then
    ga w_2 12 6 40 (iI 1) fun x_4 =>
    pa w_2 12 2 4 a1 (x_4 - (iI 48)) fun w_5 =>
    (X7_layCode_L46 1000 (X7_layCode_L99)) a1 x_1 (iI 0) w_5
  else
    pa w_2 12 2 4 a1 (iI 0) fun w_3 =>
    (X7_layCode_L46 1000 (X7_layCode_L99)) a1 x_1 (iI 0) w_3
def X7_code (w : Wd) : Option (Int32 × Wd) :=
  bI (X7_read w) fun r_1 w_2 =>
  if r_1 < (rd w_2 12 0 10) then
    some ((iI (-103)), w_2)
  else
    if (rd w_2 12 0 10) = 0 then
      some ((iI (-103)), w_2)
    else
      if (X7_lettersOf (rd w_2 12 0 12)) ≤ (rd w_2 12 0 10) then
        if (rd w_2 12 0 0) = (iI 4) then
          some ((iI (-104)), w_2)
        else
          ob (X7_layCode w_2 (rd w_2 12 0 0)) fun w_3 =>
          bnd (wr w_3 12 0 0 ((rd w_3 12 0 0) + (iI 1))) fun w_4 =>
          bnd (wr w_4 12 0 5 ((rd w_4 12 0 5) + (iI 1))) fun w_5 =>
          bnd (wr w_5 12 0 10 (iI 0)) fun w_6 =>
          some (((rd w_6 12 0 0) - (iI 1)), w_6)
      else
        some ((iI (-103)), w_2)
def X7_comes (w : Wd) (a1 : Int32) : Option Wd :=
  pa w 12 5 40 (rd w 12 0 8) a1 fun w_1 =>
  bnd (wr w_1 12 0 8 ((rd w_1 12 0 8) + (iI 1))) fun w_2 =>
  bnd (wr w_2 12 0 6 ((rd w_2 12 0 6) + (iI 1))) fun w_3 =>
  some w_3
def X7_validMany_L4 : Nat → Int32 → Int32 → Wd → Option (Int32 × Wd)
  | 0, _, _, _ => none
  | fuel + 1, b1, b2, w =>
    if (rd w 12 0 0) ≤ b2 then
      some (b1, w)
    else
      bI (X7_isValid w b2) fun r_1 w_2 =>
      if r_1 = 0 then
        bnd (b1 + (iI 0)) fun x_3 =>
        bnd (b2 + (iI 1)) fun x_4 =>
        (X7_validMany_L4 fuel) x_3 x_4 w_2
      else
        bnd (b1 + (iI 1)) fun x_5 =>
        bnd (b2 + (iI 1)) fun x_6 =>
        (X7_validMany_L4 fuel) x_5 x_6 w_2
def X7_validMany (w : Wd) : Option (Int32 × Wd) :=
  (X7_validMany_L4 1000) (iI 0) (iI 0) w
def X7_howMany (w : Wd) (a1 : Int32) : Option (Int32 × Wd) :=
  if a1 = (iI 0) then
    some ((rd w 12 0 0), w)
  else
    if a1 = (iI 1) then
      some ((rd w 12 0 8), w)
    else
      if a1 = (iI 2) then
        some ((rd w 12 0 7), w)
      else
        if a1 = (iI 3) then
          bI (X7_aliveMany w) fun r_1 w_2 =>
          some (r_1, w_2)
        else
          if a1 = (iI 4) then
            bI (X7_validMany w) fun r_3 w_4 =>
            some (r_3, w_4)
          else
            if a1 = (iI 5) then
              some ((rd w 12 0 10), w)
            else
              if a1 = (iI 6) then
                some ((rd w 12 0 5), w)
              else
                if a1 = (iI 7) then
                  some ((rd w 12 0 6), w)
                else
                  some ((iI (-102)), w)
def X7_count (w : Wd) (a1 : Int32) : Option (Int32 × Wd) :=
  bI (X7_howMany w a1) fun r_1 w_2 =>
  some (r_1, w_2)
def X7_cuts (w : Wd) (a1 : Int32) : Option (Int32 × Wd) :=
  if (X7_within a1 (iI 0) (iI 1)) = 0 then
    some ((iI (-102)), w)
  else
    bI (X7_areCuts w) fun r_1 w_2 =>
    if r_1 = 0 then
      some ((iI (-103)), w_2)
    else
      if a1 = 0 then
        ga w_2 12 16 41 (iI 0) fun x_4 =>
        some (x_4, w_2)
      else
        ga w_2 12 17 41 (iI 0) fun x_3 =>
        some (x_3, w_2)
def X7_letterOf (a0 : Int32) : Int32 :=
  if a0 = 0 then
    (iI 102)
  else
    if a0 = (iI 1) then
      (iI 112)
    else
      if a0 = (iI 2) then
        (iI 99)
      else
        (iI 116)
def X7_markLetter (a0 : Int32) : Int32 :=
  if a0 = (iI 0) then
    (iI 97)
  else
    if a0 = (iI 1) then
      (iI 98)
    else
      if a0 = (iI 2) then
        (iI 33)
      else
        if a0 = (iI 3) then
          (((iI 99) + a0) - (iI 3))
        else
          if a0 = (iI 4) then
            (((iI 99) + a0) - (iI 3))
          else
            if a0 = (iI 5) then
              (((iI 99) + a0) - (iI 3))
            else
              if a0 = (iI 6) then
                (((iI 99) + a0) - (iI 3))
              else
                if a0 = (iI 7) then
                  (iI 43)
                else
                  (((iI 99) + a0) - (iI 3))
def X7_inkNow (w : Wd) (a1 : Int32) (a2 : Int32) : Option Int32 :=
  if a2 = 0 then
    ga w 12 1 4 a1 fun x_8 =>
    some (X7_letterOf x_8)
  else
    ga w 12 1 4 a1 fun x_1 =>
    bnd ((a2 - (iI 1)) - (X7_digitsOf x_1)) fun x_2 =>
    if 0 ≤ x_2 then
      ga w 12 1 4 a1 fun x_3 =>
      bnd (X7_marksOf x_3) fun x_4 =>
      if x_4 ≤ x_2 then
        ga w 12 4 16 ((((iI 4) * a1) + x_2) - x_4) fun x_5 =>
        some ((iI 48) + x_5)
      else
        ga w 12 3 64 (((iI 16) * a1) + x_2) fun x_6 =>
        some (X7_markLetter x_6)
    else
      ga w 12 2 4 a1 fun x_7 =>
      some ((iI 48) + x_7)
def X7_mix (w : Wd) (a1 : Int64) : Option Wd :=
  bnd (wrl w (((31 : Int64) * (w.2)) + a1)) fun w_1 =>
  some w_1
def X7_pairsOf (w : Wd) (a1 : Int32) (a2 : Int32) : Option (Int32 × Wd) :=
  ob (X7_goAlong w a1 (rd w 12 0 8)) fun w_1 =>
  ga w_1 12 7 4 a2 fun x_2 =>
  some (x_2, w_1)
def X7_oneMore_L2 : Nat → (Int32 → Wd → Option Wd) → Int32 → Int32 → Wd → Option Wd
  | 0, _, _, _, _ => none
  | fuel + 1, k20, b1, b2, w =>
    if (iI 5) ≤ b2 then
      k20 b1 w
    else
      pa w 12 14 5 b2 (iI 0) fun w_1 =>
      bnd (b2 + (iI 1)) fun x_2 =>
      (X7_oneMore_L2 fuel k20) b1 x_2 w_1
def X7_oneMore_L29 : Nat → (Int32 → Int32 → Wd → Option Wd) → Int32 → Int32 → Int32 → Wd → Option Wd
  | 0, _, _, _, _, _ => none
  | fuel + 1, k81, b1, b2, b3, w =>
    if (iI 8) ≤ b3 then
      k81 b1 b2 w
    else
      ga w 12 13 5 b2 fun x_3 =>
      if x_3 ≤ 0 then
        k81 b1 b2 w
      else
        bI (X7_step w b1 b2 b3) fun r_4 w_5 =>
        if r_4 = (iI (-1)) then
          bnd (b3 + (iI 1)) fun x_6 =>
          (X7_oneMore_L29 fuel k81) b1 b2 x_6 w_5
        else
          ga w_5 12 14 5 r_4 fun x_7 =>
          ga w_5 12 13 5 b2 fun x_8 =>
          pa w_5 12 14 5 r_4 (x_7 + x_8) fun w_9 =>
          bnd (b3 + (iI 1)) fun x_10 =>
          (X7_oneMore_L29 fuel k81) b1 b2 x_10 w_9
def X7_oneMore_L81 (k22 : Int32 → Int32 → Wd → Option Wd) (b1 : Int32) (b2 : Int32) (w : Wd) : Option Wd :=
  bnd (b2 + (iI 1)) fun x_11 =>
  k22 b1 x_11 w
def X7_oneMore_L22 : Nat → (Wd → Option Wd) → Int32 → Int32 → Wd → Option Wd
  | 0, _, _, _, _ => none
  | fuel + 1, k87, b1, b2, w =>
    if (iI 5) ≤ b2 then
      k87 w
    else
      (X7_oneMore_L29 1000 (X7_oneMore_L81 (X7_oneMore_L22 fuel k87))) b1 b2 (iI 0) w
def X7_oneMore_L89 : Nat → Int32 → Wd → Option Wd
  | 0, _, _ => none
  | fuel + 1, b2, w =>
    if (iI 5) ≤ b2 then
      some w
    else
      ga w 12 14 5 b2 fun x_12 =>
      pa w 12 13 5 b2 x_12 fun w_13 =>
      bnd (b2 + (iI 1)) fun x_14 =>
      (X7_oneMore_L89 fuel) x_14 w_13
def X7_oneMore_L87 (w : Wd) : Option Wd :=
  (X7_oneMore_L89 1000) (iI 0) w
def X7_oneMore_L20 (b1 : Int32) (w : Wd) : Option Wd :=
  (X7_oneMore_L22 1000 (X7_oneMore_L87)) b1 (iI 0) w
def X7_oneMore (w : Wd) (a1 : Int32) : Option Wd :=
  (X7_oneMore_L2 1000 (X7_oneMore_L20)) a1 (iI 0) w
def X7_rowsNow_L2 : Nat → (Int32 → Int32 → Wd → Option (Int32 × Wd)) → Int32 → Int32 → Int32 → Wd → Option (Int32 × Wd)
  | 0, _, _, _, _, _ => none
  | fuel + 1, k28, b1, b2, b3, w =>
    if (iI 5) ≤ b3 then
      k28 b1 b2 w
    else
      if b3 = 0 then
        pa w 12 13 5 b3 (iI 1) fun w_3 =>
        bnd (b3 + (iI 1)) fun x_4 =>
        (X7_rowsNow_L2 fuel k28) b1 b2 x_4 w_3
      else
        pa w 12 13 5 b3 (iI 0) fun w_1 =>
        bnd (b3 + (iI 1)) fun x_2 =>
        (X7_rowsNow_L2 fuel k28) b1 b2 x_2 w_1
def X7_rowsNow_L30 : Nat → Int32 → Int32 → Int32 → Wd → Option (Int32 × Wd)
  | 0, _, _, _, _ => none
  | fuel + 1, b1, b2, b3, w =>
    if b2 ≤ b3 then
      ga w 12 13 5 (iI 0) fun x_5 =>
      some (x_5, w)
    else
      ob (X7_oneMore w b1) fun w_6 =>
      bnd (b3 + (iI 1)) fun x_7 =>
      (X7_rowsNow_L30 fuel) b1 b2 x_7 w_6
def X7_rowsNow_L28 (b1 : Int32) (b2 : Int32) (w : Wd) : Option (Int32 × Wd) :=
  (X7_rowsNow_L30 1000) b1 b2 (iI 0) w
def X7_rowsNow (w : Wd) (a1 : Int32) (a2 : Int32) : Option (Int32 × Wd) :=
  (X7_rowsNow_L2 1000 (X7_rowsNow_L28)) a1 a2 (iI 0) w
def X7_mixCode_L2 : Nat → (Int32 → Wd → Option Wd) → Int32 → Int32 → Wd → Option Wd
  | 0, _, _, _, _ => none
  | fuel + 1, k32, b1, b2, w =>
    ga w 12 1 4 b1 fun x_1 =>
    if (X7_lettersOf x_1) ≤ b2 then
      k32 b1 w
    else
      ob (X7_inkNow w b1 b2) fun r_2 =>
      ob (X7_mix w (r_2.toInt64)) fun w_3 =>
      bnd (b2 + (iI 1)) fun x_4 =>
      (X7_mixCode_L2 fuel k32) b1 x_4 w_3
def X7_mixCode_L34 : Nat → (Int32 → Wd → Option Wd) → Int32 → Int32 → Wd → Option Wd
  | 0, _, _, _, _ => none
  | fuel + 1, k57, b1, b2, w =>
    if (iI 8) ≤ b2 then
      k57 b1 w
    else
      bI (X7_aboutNow w b1 b2) fun r_5 w_6 =>
      ob (X7_mix w_6 (r_5.toInt64)) fun w_7 =>
      bnd (b2 + (iI 1)) fun x_8 =>
      (X7_mixCode_L34 fuel k57) b1 x_8 w_7
def X7_mixCode_L59 : Nat → (Int32 → Wd → Option Wd) → Int32 → Int32 → Wd → Option Wd
  | 0, _, _, _, _ => none
  | fuel + 1, k81, b1, b2, w =>
    if (iI 4) ≤ b2 then
      k81 b1 w
    else
      bI (X7_pairsOf w b1 b2) fun r_9 w_10 =>
      ob (X7_mix w_10 (r_9.toInt64)) fun w_11 =>
      bnd (b2 + (iI 1)) fun x_12 =>
      (X7_mixCode_L59 fuel k81) b1 x_12 w_11
def X7_mixCode_L94 : Nat → Int32 → Int32 → Wd → Option Wd
  | 0, _, _, _ => none
  | fuel + 1, b1, b2, w =>
    if (rd w 12 0 0) ≤ b2 then
      some w
    else
      bI (X7_apartNow w b1 b2) fun r_16 w_17 =>
      ob (X7_mix w_17 (r_16.toInt64)) fun w_18 =>
      bnd (b2 + (iI 1)) fun x_19 =>
      (X7_mixCode_L94 fuel) b1 x_19 w_18
def X7_mixCode_L81 (b1 : Int32) (w : Wd) : Option Wd :=
  bI (X7_rowsNow w b1 (iI 5)) fun r_13 w_14 =>
  ob (X7_mix w_14 (r_13.toInt64)) fun w_15 =>
  (X7_mixCode_L94 1000) b1 (iI 0) w_15
def X7_mixCode_L57 (b1 : Int32) (w : Wd) : Option Wd :=
  (X7_mixCode_L59 1000 (X7_mixCode_L81)) b1 (iI 0) w
def X7_mixCode_L32 (b1 : Int32) (w : Wd) : Option Wd :=
  (X7_mixCode_L34 1000 (X7_mixCode_L57)) b1 (iI 0) w
def X7_mixCode (w : Wd) (a1 : Int32) : Option Wd :=
  (X7_mixCode_L2 1000 (X7_mixCode_L32)) a1 (iI 0) w
def X7_judgedNow_L6 : Nat → Int32 → Int32 → Int32 → Wd → Option (Int32 × Wd)
  | 0, _, _, _, _ => none
  | fuel + 1, b1, b2, b3, w =>
    if (rd w 12 0 0) ≤ b3 then
      some (b1, w)
    else
      bI (X7_isValid w b3) fun r_1 w_2 =>
      if r_1 = 0 then
        bnd (b3 + (iI 1)) fun x_3 =>
        (X7_judgedNow_L6 fuel) b1 b2 x_3 w_2
      else
        if (rd w_2 12 0 17) ≤ b2 then
          bnd (b3 + (iI 1)) fun x_4 =>
          (X7_judgedNow_L6 fuel) b1 b2 x_4 w_2
        else
          bnd (rd w_2 12 0 17) fun x_5 =>
          bnd (b3 + (iI 1)) fun x_6 =>
          (X7_judgedNow_L6 fuel) b3 x_5 x_6 w_2
def X7_judgedNow (w : Wd) : Option (Int32 × Wd) :=
  (X7_judgedNow_L6 1000) (iI (-1)) (iI (-1)) (iI 0) w
def X7_pieceNow_L5 : Nat → (Int32 → Int32 → Wd → Option Int32) → Int32 → Int32 → Int32 → Int32 → Wd → Option Int32
  | 0, _, _, _, _, _, _ => none
  | fuel + 1, k24, b1, b2, b3, b4, w =>
    if b1 ≤ b4 then
      k24 b2 b3 w
    else
      ga w 12 18 41 b3 fun x_1 =>
      bnd (b4 + (iI 1)) fun x_2 =>
      (X7_pieceNow_L5 fuel k24) b1 b2 x_1 x_2 w
def X7_pieceNow_L24 (b2 : Int32) (b3 : Int32) (w : Wd) : Option Int32 :=
  if b2 = 0 then
    ga w 12 18 41 b3 fun x_5 =>
    some x_5
  else
    if b2 = (iI 1) then
      ga w 12 19 41 b3 fun x_4 =>
      some x_4
    else
      ga w 12 20 41 b3 fun x_3 =>
      some x_3
def X7_pieceNow (w : Wd) (a1 : Int32) (a2 : Int32) : Option Int32 :=
  (X7_pieceNow_L5 1000 (X7_pieceNow_L24)) a1 a2 (iI 0) (iI 0) w
def X7_mixCuts_L24 : Nat → Int32 → Wd → Option Wd
  | 0, _, _ => none
  | fuel + 1, b1, w =>
    ga w 12 17 41 (iI 0) fun x_5 =>
    if ((iI 3) * x_5) ≤ b1 then
      some w
    else
      ob (X7_pieceNow w (b1 / (iI 3)) (irm b1 (iI 3))) fun r_6 =>
      ob (X7_mix w (r_6.toInt64)) fun w_7 =>
      bnd (b1 + (iI 1)) fun x_8 =>
      (X7_mixCuts_L24 fuel) x_8 w_7
def X7_mixCuts (w : Wd) : Option Wd :=
  ga w 12 16 41 (iI 0) fun x_1 =>
  ob (X7_mix w (x_1.toInt64)) fun w_2 =>
  ga w_2 12 17 41 (iI 0) fun x_3 =>
  ob (X7_mix w_2 (x_3.toInt64)) fun w_4 =>
  (X7_mixCuts_L24 1000) (iI 0) w_4
def X7_digest_L9 : Nat → (Wd → Option (Int64 × Wd)) → Int32 → Wd → Option (Int64 × Wd)
  | 0, _, _, _ => none
  | fuel + 1, k28, b1, w =>
    if (rd w 12 0 0) ≤ b1 then
      k28 w
    else
      ob (X7_mixCode w b1) fun w_2 =>
      bnd (b1 + (iI 1)) fun x_3 =>
      (X7_digest_L9 fuel k28) x_3 w_2
def X7_digest_L30 : Nat → (Wd → Option (Int64 × Wd)) → Int32 → Wd → Option (Int64 × Wd)
  | 0, _, _, _ => none
  | fuel + 1, k55, b1, w =>
    if (rd w 12 0 8) ≤ b1 then
      k55 w
    else
      ga w 12 5 40 b1 fun x_4 =>
      ob (X7_mix w (x_4.toInt64)) fun w_5 =>
      bnd (b1 + (iI 1)) fun x_6 =>
      (X7_digest_L30 fuel k55) x_6 w_5
def X7_digest_L77 : Nat → (Wd → Option (Int64 × Wd)) → Int32 → Wd → Option (Int64 × Wd)
  | 0, _, _, _ => none
  | fuel + 1, k102, b1, w =>
    if (rd w 12 0 10) ≤ b1 then
      k102 w
    else
      ga w 12 6 40 b1 fun x_13 =>
      ob (X7_mix w (x_13.toInt64)) fun w_14 =>
      bnd (b1 + (iI 1)) fun x_15 =>
      (X7_digest_L77 fuel k102) x_15 w_14
def X7_digest_L104 : Nat → Int32 → Wd → Option (Int64 × Wd)
  | 0, _, _ => none
  | fuel + 1, b1, w =>
    if (iI 8) ≤ b1 then
      some (w.2, w)
    else
      bI (X7_howMany w b1) fun r_16 w_17 =>
      ob (X7_mix w_17 (r_16.toInt64)) fun w_18 =>
      bnd (b1 + (iI 1)) fun x_19 =>
      (X7_digest_L104 fuel) x_19 w_18
def X7_digest_L102 (w : Wd) : Option (Int64 × Wd) :=
  (X7_digest_L104 1000) (iI 0) w
def X7_digest_L55 (w : Wd) : Option (Int64 × Wd) :=
  bI (X7_judgedNow w) fun r_7 w_8 =>
  ob (X7_mix w_8 (r_7.toInt64)) fun w_9 =>
  bI (X7_areCuts w_9) fun r_10 w_11 =>
  if r_10 = 0 then
    (X7_digest_L77 1000 (X7_digest_L102)) (iI 0) w_11
  else
    ob (X7_mixCuts w_11) fun w_12 =>
    (X7_digest_L77 1000 (X7_digest_L102)) (iI 0) w_12
def X7_digest_L28 (w : Wd) : Option (Int64 × Wd) :=
  (X7_digest_L30 1000 (X7_digest_L55)) (iI 0) w
def X7_digest (w : Wd) : Option (Int64 × Wd) :=
  bnd (wrl w (1511 : Int64)) fun w_1 =>
  (X7_digest_L9 1000 (X7_digest_L28)) (iI 0) w_1
def X7_drop (w : Wd) : Option (Int32 × Wd) :=
  if (rd w 12 0 0) = 0 then
    some ((iI (-103)), w)
  else
    bnd (wr w 12 0 0 ((rd w 12 0 0) - (iI 1))) fun w_1 =>
    some ((rd w_1 12 0 0), w_1)
def X7_fault (w : Wd) : Option (Int32 × Wd) :=
  bI (X7_read w) fun r_1 w_2 =>
  some (r_1, w_2)
def X7_feed (w : Wd) (a1 : Int32) : Option (Int32 × Wd) :=
  if (X7_within a1 (iI 0) (iI 7)) = 0 then
    some ((iI (-102)), w)
  else
    if (rd w 12 0 8) = (rd w 12 0 7) then
      some ((iI (-104)), w)
    else
      ob (X7_comes w a1) fun w_1 =>
      some ((rd w_1 12 0 8), w_1)
def X7_feeds_L4 : Nat → (Int32 → Wd → Option (Int32 × Wd)) → Int32 → Int32 → Wd → Option (Int32 × Wd)
  | 0, _, _, _, _ => none
  | fuel + 1, k44, b1, b2, w =>
    if (rd w 12 0 10) ≤ b2 then
      k44 b1 w
    else
      if b1 = 0 then
        bnd (b2 + (iI 1)) fun x_1 =>
        (X7_feeds_L4 fuel k44) (iI 0) x_1 w
      else
        ga w 12 6 40 b2 fun x_2 =>
        if (X7_within x_2 (iI 48) (iI 55)) = 0 then
          bnd (b2 + (iI 1)) fun x_3 =>
          (X7_feeds_L4 fuel k44) (iI 0) x_3 w
        else
          bnd (b2 + (iI 1)) fun x_4 =>
          (X7_feeds_L4 fuel k44) (iI 1) x_4 w
def X7_feeds_L72 : Nat → Int32 → Wd → Option (Int32 × Wd)
  | 0, _, _ => none
  | fuel + 1, b2, w =>
    if (rd w 12 0 10) ≤ b2 then
      bnd (wr w 12 0 10 (iI 0)) fun w_5 =>
      some ((rd w_5 12 0 8), w_5)
    else
      ga w 12 6 40 b2 fun x_6 =>
      ob (X7_comes w (x_6 - (iI 48))) fun w_7 =>
      bnd (b2 + (iI 1)) fun x_8 =>
      (X7_feeds_L72 fuel) x_8 w_7
def X7_feeds_L44 (b1 : Int32) (w : Wd) : Option (Int32 × Wd) :=
  if b1 = 0 then
    some ((iI (-103)), w)
  else
    if ((rd w 12 0 8) + (rd w 12 0 10)) ≤ (rd w 12 0 7) then
      (X7_feeds_L72 1000) (iI 0) w
    else
      some ((iI (-104)), w)
def X7_feeds (w : Wd) : Option (Int32 × Wd) :=
  (X7_feeds_L4 1000 (X7_feeds_L44)) (iI 1) (iI 0) w
def X7_ink (w : Wd) (a1 : Int32) (a2 : Int32) : Option Int32 :=
  if (X7_isCode w a1) = 0 then
    some (iI (-101))
  else
    ga w 12 1 4 a1 fun x_1 =>
    if (X7_within a2 (iI 0) ((X7_lettersOf x_1) - (iI 1))) = 0 then
      some (iI (-101))
    else
      ob (X7_inkNow w a1 a2) fun r_2 =>
      some r_2
def X7_judged (w : Wd) : Option (Int32 × Wd) :=
  bI (X7_judgedNow w) fun r_1 w_2 =>
  some (r_1, w_2)
def X7_leastTo_L14 : Nat → Int32 → Int32 → Int32 → Int32 → Int32 → Int32 → Wd → Option (Int32 × Wd)
  | 0, _, _, _, _, _, _, _ => none
  | fuel + 1, b1, b2, b3, b4, b5, b6, w =>
    if b6 = (iI (-1)) then
      bnd (b5 + (iI 1)) fun x_3 =>
      bI (X7_bothBehind w b1 b2 b3 x_3) fun r_4 w_5 =>
      (X7_leastTo_L14 fuel) b1 b2 b3 b4 x_3 r_4 w_5
    else
      if ((b4 >>> (b6 &&& 31)) &&& (iI 1)) = 0 then
        bnd (b5 + (iI 1)) fun x_6 =>
        bI (X7_bothBehind w b1 b2 b3 x_6) fun r_7 w_8 =>
        (X7_leastTo_L14 fuel) b1 b2 b3 b4 x_6 r_7 w_8
      else
        some (b5, w)
def X7_leastTo (w : Wd) (a1 : Int32) (a2 : Int32) (a3 : Int32) (a4 : Int32) : Option (Int32 × Wd) :=
  bI (X7_bothBehind w a1 a2 a3 (iI 0)) fun r_1 w_2 =>
  (X7_leastTo_L14 1000) a1 a2 a3 a4 (iI 0) r_1 w_2
def X7_letter (w : Wd) (a1 : Int32) : Option (Int32 × Wd) :=
  if (X7_within a1 (iI 32) (iI 126)) = 0 then
    some ((iI (-102)), w)
  else
    if (rd w 12 0 10) = (iI 40) then
      some ((iI (-104)), w)
    else
      pa w 12 6 40 (rd w 12 0 10) a1 fun w_1 =>
      bnd (wr w_1 12 0 10 ((rd w_1 12 0 10) + (iI 1))) fun w_2 =>
      some ((rd w_2 12 0 10), w_2)
def X7_open (w : Wd) (a1 : Int32) : Option (Int32 × Wd) :=
  if (X7_within a1 (iI 1) (iI 40)) = 0 then
    some ((iI (-102)), w)
  else
    bnd (rd w 12 0 8) fun x_1 =>
    bnd (wr w 12 0 7 a1) fun w_2 =>
    bnd (wr w_2 12 0 8 (iI 0)) fun w_3 =>
    some (x_1, w_3)
def X7_pairs (w : Wd) (a1 : Int32) (a2 : Int32) : Option (Int32 × Wd) :=
  if (X7_isCode w a1) = 0 then
    some ((iI (-101)), w)
  else
    if (X7_within a2 (iI 0) (iI 3)) = 0 then
      some ((iI (-102)), w)
    else
      bI (X7_pairsOf w a1 a2) fun r_1 w_2 =>
      some (r_1, w_2)
def X7_piece (w : Wd) (a1 : Int32) (a2 : Int32) : Option (Int32 × Wd) :=
  bI (X7_areCuts w) fun r_1 w_2 =>
  if r_1 = 0 then
    some ((iI (-101)), w_2)
  else
    ga w_2 12 17 41 (iI 0) fun x_3 =>
    if (X7_within a1 (iI 0) (x_3 - (iI 1))) = 0 then
      some ((iI (-101)), w_2)
    else
      if (X7_within a2 (iI 0) (iI 2)) = 0 then
        some ((iI (-102)), w_2)
      else
        ob (X7_pieceNow w_2 a1 a2) fun r_4 =>
        some (r_4, w_2)
def X7_points (w : Wd) (a1 : Int32) (a2 : Int32) : Option Int32 :=
  if (X7_isCode w a1) = 0 then
    some (iI (-101))
  else
    if (X7_within a2 (iI 0) (iI 3)) = 0 then
      some (iI (-102))
    else
      ga w 12 4 16 (((iI 4) * a1) + a2) fun x_1 =>
      some x_1
def X7_rank_L19 : Nat → Int32 → Int32 → Wd → Option (Int32 × Wd)
  | 0, _, _, _ => none
  | fuel + 1, b1, b2, w =>
    bI (X7_rankOf w b2) fun r_1 w_2 =>
    if r_1 = b1 then
      some (b2, w_2)
    else
      bnd (b2 + (iI 1)) fun x_3 =>
      (X7_rank_L19 fuel) b1 x_3 w_2
def X7_rank (w : Wd) (a1 : Int32) : Option (Int32 × Wd) :=
  if (X7_within a1 (iI 0) ((rd w 12 0 0) - (iI 1))) = 0 then
    some ((iI (-101)), w)
  else
    (X7_rank_L19 1000) a1 (iI 0) w
def X7_rows (w : Wd) (a1 : Int32) (a2 : Int32) : Option (Int32 × Wd) :=
  if (X7_isCode w a1) = 0 then
    some ((iI (-101)), w)
  else
    if (X7_within a2 (iI 0) (iI 9)) = 0 then
      some ((iI (-102)), w)
    else
      bI (X7_rowsNow w a1 a2) fun r_1 w_2 =>
      some (r_1, w_2)
def X7_tellsNow_L32 : Nat → Int32 → Int32 → Int32 → Int32 → Int32 → Int32 → Int32 → Wd → Option (Int32 × Wd)
  | 0, _, _, _, _, _, _, _, _ => none
  | fuel + 1, b1, b2, b3, b4, b5, b6, b7, w =>
    if b3 < b7 then
      some (b6, w)
    else
      ga w 12 15 31 ((b4 - (iI 1)) - b7) fun x_3 =>
      bI (X7_leastTo w b1 b2 b5 x_3) fun r_4 w_5 =>
      bI (X7_bothBehind w_5 b1 b2 b5 r_4) fun r_6 w_7 =>
      bnd (b7 + (iI 1)) fun x_8 =>
      (X7_tellsNow_L32 fuel) b1 b2 b3 b4 r_6 r_4 x_8 w_7
def X7_tellsNow (w : Wd) (a1 : Int32) (a2 : Int32) (a3 : Int32) : Option (Int32 × Wd) :=
  bI (X7_apartNow w a1 a2) fun r_1 w_2 =>
  if (X7_within a3 (iI 0) (r_1 - (iI 1))) = 0 then
    some ((iI (-101)), w_2)
  else
    (X7_tellsNow_L32 1000) a1 a2 a3 r_1 (iI 0) (iI 0) (iI 0) w_2
def X7_tells (w : Wd) (a1 : Int32) (a2 : Int32) (a3 : Int32) : Option (Int32 × Wd) :=
  if (X7_isCode w a1) = 0 then
    some ((iI (-101)), w)
  else
    if (X7_isCode w a2) = 0 then
      some ((iI (-101)), w)
    else
      bI (X7_tellsNow w a1 a2 a3) fun r_1 w_2 =>
      some (r_1, w_2)
def X7_unit (w : Wd) (a1 : Int32) : Option Int32 :=
  if (X7_within a1 (iI 0) ((rd w 12 0 8) - (iI 1))) = 0 then
    some (iI (-101))
  else
    ga w 12 5 40 a1 fun x_1 =>
    some x_1

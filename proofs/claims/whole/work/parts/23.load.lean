/-! A text becomes a code: the class's tables. -/
def LX (w : Wd) (g : Nat) (pg : Nat → Nat) (kd : Nat) : Prop := rd w g 0 1 = iI (lets kd : Nat) ∧ rd w g 0 2 = iI (kd : Nat) ∧ rd w g 0 3 = iI (ms (Cn pg kd) : Nat) ∧ rd w g 0 4 = iI ((pg 1 : Int) - 48) ∧ ∀ j, j < lets kd → rd w g 1 j = iI (pg j : Nat)
theorem LX.fr {w w' : Wd} {g kd : Nat} {pg : Nat → Nat} (h : LX w g pg kd) (e : ∀ o j, o < 2 → rd w' g o j = rd w g o j) : LX w' g pg kd := by
  unfold LX at h ⊢
  simp only [e 0 _ (by decide), e 1 _ (by decide)]
  exact h
theorem x_signMove {m ch : Nat} (h : ch = 97 ∨ ch = 98 ∨ ch = 33) (hm : m < 5) : X0_signMove (iI m) (iI ch) = mvE (sEnds (markN ch) m) := by
  rcases (show m = 0 ∨ m = 1 ∨ m = 2 ∨ m = 3 ∨ m = 4 by omega) with rfl | rfl | rfl | rfl | rfl <;> rcases h with rfl | rfl | rfl <;> decide
theorem x_beginMove {ch : Nat} (h : okMark 2 ch = true) : X0_beginMove (iI ch) = mvE (if markN ch = 7 then none else if 2 < markN ch then some (markN ch - 2, 0) else sEnds (markN ch) 0) := by
  have := okMark_iff.mp h
  rcases (show ch = 97 ∨ ch = 98 ∨ ch = 33 ∨ ch = 43 ∨ ch = 99 ∨ ch = 100 ∨ ch = 101 ∨ ch = 102 by omega) with rfl | rfl | rfl | rfl | rfl | rfl | rfl | rfl <;> decide
theorem x_wantedMove {m ch : Nat} (h : okMark 2 ch = true) (hm : m < 5) (h0 : m ≠ 0) : X0_wantedMove (iI m) (iI ch) = mvE (if markN ch = 7 then (if 3 ≤ m then some (m - 2, 0) else some (0, m)) else none) := by
  have := okMark_iff.mp h
  rcases (show m = 1 ∨ m = 2 ∨ m = 3 ∨ m = 4 by omega) with rfl | rfl | rfl | rfl <;> rcases (show ch = 97 ∨ ch = 98 ∨ ch = 33 ∨ ch = 43 ∨ ch = 99 ∨ ch = 100 ∨ ch = 101 ∨ ch = 102 by omega) with rfl | rfl | rfl | rfl | rfl | rfl | rfl | rfl <;> decide
section LOAD
variable {w : Wd} {g kd : Nat} {pg : Nat → Nat}
theorem x_markOf (h : LX w g pg kd) (hW : Whole pg kd) {b u : Nat} (hu : 8 * b + u < mks kd) : X0_markOf w g (iI b) (iI u) = some (iI (pg (1 + dgs kd + (8 * b + u)) : Nat)) := by
  have hk := (kindc_lt hW.1).1
  have hle : lets kd = 1 + dgs kd + mks kd + 4 := rfl
  have hl := lets_le kd
  obtain ⟨h1, h2, h3, h4, h5⟩ := h
  unfold X0_markOf
  rw [h2, x_marksBegin hk, iI_mul, iI_add, iI_add, bnd_e, h1, if_neg (nT0 (by omega) (by omega)), if_neg (nL (by omega) (by omega) (by omega)), ga_e (k := 1 + dgs kd + (8 * b + u)) (by omega) (by omega) (by decide), h5 _ (by omega)]
theorem x_pointsOf (h : LX w g pg kd) (hW : Whole pg kd) {i : Nat} (hi : i < 4) : X0_pointsOf w g (iI i) = some (iI ((Cn pg kd).2.2.2 i : Nat)) := by
  have hk := (kindc_lt hW.1).1
  have hle : lets kd = 1 + dgs kd + mks kd + 4 := rfl
  have hl := lets_le kd
  have hp := hW.pts hi
  obtain ⟨h1, h2, h3, h4, h5⟩ := h
  unfold X0_pointsOf
  rw [h2, x_pointsBegin hk, iI_add, bnd_e, h1, if_neg (nT0 (by omega) (by omega)), if_neg (nL (by omega) (by omega) (by omega)), ga_e (k := 1 + dgs kd + mks kd + i) (by omega) (by omega) (by decide), h5 _ (by omega), iI_sub]
  show some (iI _) = some (iI ((pg (1 + dgs kd + mks kd + i) - 48 : Nat) : Int))
  congr 2; omega
theorem x_moveOf (h : LX w g pg kd) (hW : Whole pg kd) {m u : Nat} (hm : m < ms (Cn pg kd)) (hu : u < 8) : X0_moveOf w g (iI m) (iI u) = some (mvE (tr (Cn pg kd) m u)) := by
  have hk := (kindc_lt hW.1).1
  have hl := lets_le kd
  have hm5 := ms_le (Cn pg kd)
  have mk : (Cn pg kd).2.2.1 u = markN (pg (1 + dgs kd + u)) := by show (if u < mks kd then _ else _) = _; rw [if_pos (by omega)]
  have om := hW.mark (k := u) (by omega)
  have mo : X0_markOf w g (iI 0) (iI u) = some (iI (pg (1 + dgs kd + u) : Nat)) := by
    have := x_markOf h hW (b := 0) (u := u) (by omega)
    rw [show 8 * 0 + u = u by omega] at this
    exact this
  have hms : ms (Cn pg kd) = if kd = 2 then 5 else if kd = 0 then 1 else 2 := rfl
  unfold X0_moveOf
  rw [h.2.1, h.2.2.2.1]
  rcases (show kd = 0 ∨ kd = 1 ∨ kd = 2 ∨ kd = 3 by omega) with rfl | rfl | rfl | rfl
  · rw [if_pos (by decide), mo, ob_s]
    show some (X0_signMove (iI ((0 : Nat) : Int)) _) = _
    rw [x_signMove (by have := okMark_iff.mp om; omega) (by decide)]
    show _ = some (mvE (sEnds ((Cn pg 0).2.2.1 u) 0))
    rw [mk]
  · rw [if_neg (by decide), if_pos (by decide)]
    have hd := hW.digit rfl
    have hdg : (Cn pg 1).2.1 = pg 1 - 48 := rfl
    have sm : X0_signMove (iI 0) (iI (pg (1 + dgs 1 + u) : Nat)) = mvE (sEnds ((Cn pg 1).2.2.1 u) 0) := by
      rw [mk]
      exact x_signMove (m := 0) (by have := okMark_iff.mp om; omega) (by decide)
    by_cases m0 : m = 0
    · subst m0
      rw [if_pos (show iI ((0 : Nat) : Int) = 0 from rfl)]
      show _ = some (mvE (if u < pg 1 - 48 then sEnds ((Cn pg 1).2.2.1 u) 0 else some (1, 0)))
      by_cases hud : u < pg 1 - 48
      · rw [if_pos (yT (by omega) (by omega) (by omega)), mo, ob_s, if_pos hud, sm]
      · rw [if_neg (nT (by omega) (by omega) (by omega)), if_neg hud]; rfl
    · rw [if_neg (nE0 (by omega) (by omega)), mo, ob_s, sm]
      show _ = some (mvE (if m = 0 then _ else sEnds ((Cn pg 1).2.2.1 u) 0))
      rw [if_neg m0]
  · rw [if_neg (by decide), if_neg (by decide), if_pos (by decide)]
    by_cases m0 : m = 0
    · subst m0
      rw [if_pos (show iI ((0 : Nat) : Int) = 0 from rfl), mo, ob_s, x_beginMove om]
      show _ = some (mvE (if (Cn pg 2).2.2.1 u = 7 then none else if 2 < (Cn pg 2).2.2.1 u then some ((Cn pg 2).2.2.1 u - 2, 0) else sEnds ((Cn pg 2).2.2.1 u) 0))
      rw [mk]
    · rw [if_neg (nE0 (by omega) (by omega)), mo, ob_s, x_wantedMove om (by omega) m0]
      show _ = some (mvE (if m = 0 then _ else if (Cn pg 2).2.2.1 u = 7 then (if 3 ≤ m then some (m - 2, 0) else some (0, m)) else none))
      rw [if_neg m0, mk]
  · rw [if_neg (by decide), if_neg (by decide), if_neg (by decide), if_pos (by decide)]
    have hd := hW.digit rfl
    have hm2 : m < 2 := hm
    show _ = some (mvE (if u = pg 1 - 48 then some (1 - m, 0) else sEnds ((Cn pg 3).2.2.1 (8 * m + u)) m))
    by_cases hud : u = pg 1 - 48
    · rw [if_pos (yE (by omega)), if_pos hud, iI_sub, iI_mul]
      show some (iI _) = some (iI ((3 * (1 - m) + 0 : Nat) : Int))
      congr 2; omega
    · have hb : 8 * m + u < mks 3 := by show 8 * m + u < 16; omega
      have om2 := hW.mark hb
      have mk2 : (Cn pg 3).2.2.1 (8 * m + u) = markN (pg (1 + dgs 3 + (8 * m + u))) := by show (if 8 * m + u < mks 3 then _ else _) = _; rw [if_pos hb]
      rw [if_neg (nE (by omega) (by omega) (by omega)), x_markOf h hW hb, ob_s, if_neg hud, x_signMove (by have := okMark_iff.mp om2; omega) (by omega), mk2]
/-- the next place and the gain, out of a move and the last sign -/
def nxq (q : Option (Nat × Nat)) (l : Nat) : Option Nat := match q with
  | none => none
  | some q => if q.2 = 0 then some (3 * q.1 + l) else some (3 * q.1 + q.2)
def gnq (C : Cd) (q : Option (Nat × Nat)) (l : Nat) : Nat := match q with
  | none => 0
  | some q => if q.2 = 0 then 0 else if l = 0 then 0 else C.2.2.2 ((l - 1) * 2 + (q.2 - 1))
theorem nx_q (C : Cd) {m l u : Nat} (hl : l < 3) : nx C (3 * m + l) u = nxq (trc C m u) l := by
  unfold nx nxq
  rw [show (3 * m + l) / 3 = m by omega, show (3 * m + l) % 3 = l by omega]
  cases trc C m u <;> rfl
theorem gn_q (C : Cd) {m l u : Nat} (hl : l < 3) : gn C (3 * m + l) u = gnq C (trc C m u) l := by
  unfold gn gnq
  rw [show (3 * m + l) / 3 = m by omega, show (3 * m + l) % 3 = l by omega]
  cases trc C m u <;> rfl
def qok (q : Option (Nat × Nat)) : Prop := ∀ m' s, q = some (m', s) → m' < 5 ∧ s < 3
theorem x_layStep (h : LX w g pg kd) (hW : Whole pg kd) {m u l : Nat} {q : Option (Nat × Nat)} (hq : qok q) (hm : m < 5) (hu : u < 8) (hl : l < 3) (fuel : Nat) :
    X0_layOut_L3 (fuel + 1) g (iI (m : Nat)) (iI (u : Nat)) (mvE q) (iI (l : Nat)) w = X0_layOut_L3 fuel g (iI (m : Nat)) (iI (u : Nat)) (mvE q) (iI ((l + 1 : Nat) : Int)) (wr (wr w g 3 ((3 * m + l) * 8 + u) (oE (nxq q l))) g 4 ((3 * m + l) * 8 + u) (iI (gnq (Cn pg kd) q l : Nat))) := by
  have hx : ((m : Int) * 3 + l) * 8 + u = (((3 * m + l) * 8 + u : Nat) : Int) := by omega
  have hb : (3 * m + l) * 8 + u < 120 := by omega
  rw [X0_layOut_L3, if_neg (nL (by omega) (by omega) (by omega)), iI_mul, iI_add, iI_mul, iI_add, bnd_e, hx]
  generalize hcell : (3 * m + l) * 8 + u = cell at hb
  cases q with
  | none =>
    rw [show mvE none = iI (-1) from rfl, if_pos rfl]
    unfold X0_layOut_L38
    rw [if_pos rfl]
    unfold X0_layOut_L64
    rw [pa_n hb (by decide), if_pos (yE0 rfl), pa_n hb (by decide), bnd_e, iI_add]
    rfl
  | some q =>
    obtain ⟨m', s⟩ := q
    obtain ⟨q1, q2⟩ := hq m' s rfl
    have hmv : mvE (some (m', s)) = iI ((3 * m' + s : Nat) : Int) := rfl
    have hne : ¬ mvE (some (m', s)) = iI (-1) := by rw [hmv]; exact nE (by omega) (by omega) (by omega)
    have hirm : irm (mvE (some (m', s))) (iI 3) = iI (s : Nat) := by
      rw [hmv, iI_irm (by omega) (by omega) (by decide) (by decide)]; congr 1; omega
    rw [if_neg hne, hirm]
    by_cases hs : s = 0
    · subst hs
      rw [if_pos (yE0 (by omega))]
      unfold X0_layOut_L38
      rw [if_neg hne, if_pos (yE0 rfl)]
      unfold X0_layOut_L64
      rw [pa_n hb (by decide), if_pos (yE0 rfl), pa_n hb (by decide), bnd_e, iI_add, hmv, iI_add]
      have e1 : nxq (some (m', 0)) l = some (3 * m' + l) := by simp [nxq]
      have e2 : gnq (Cn pg kd) (some (m', 0)) l = 0 := by simp [gnq]
      rw [e1, e2]
      rfl
    · rw [if_neg (nE0 (by omega) (by omega))]
      unfold X0_layOut_L38
      rw [if_neg hne, if_neg n10]
      unfold X0_layOut_L64
      have e1 : nxq (some (m', s)) l = some (3 * m' + s) := by simp [nxq, hs]
      rw [pa_n hb (by decide), if_neg n10, e1]
      by_cases hl0 : l = 0
      · have e2 : gnq (Cn pg kd) (some (m', s)) l = 0 := by simp [gnq, hl0]
        rw [if_pos (yE0 (by omega)), pa_n hb (by decide), bnd_e, iI_add, e2]
        rfl
      · have e2 : gnq (Cn pg kd) (some (m', s)) l = (Cn pg kd).2.2.2 ((l - 1) * 2 + (s - 1)) := by simp [gnq, hs, hl0]
        have hsp : X0_sortPair (iI (l : Nat)) (iI (s : Nat)) = iI (((l - 1) * 2 + (s - 1) : Nat) : Int) := by
          unfold X0_sortPair
          rw [iI_sub, iI_mul, iI_add, iI_sub]; congr 1; omega
        rw [if_neg (nE0 (by omega) (by omega)), hirm, hsp, x_pointsOf (LX.fr h (fun o j ho => rd_o (by omega))) hW (by omega), ob_s, pa_n hb (by decide), bnd_e, iI_add, e2]
        rfl
theorem x_layOut (h : LX w g pg kd) (hW : Whole pg kd) {m u : Nat} {q : Option (Nat × Nat)} (hq : qok q) (hm : m < 5) (hu : u < 8) : ∃ w', X0_layOut w g (iI (m : Nat)) (iI (u : Nat)) (mvE q) = some w' ∧ Fr (SG g) w w' ∧ (∀ l, l < 3 → rd w' g 3 ((3 * m + l) * 8 + u) = oE (nxq q l) ∧ rd w' g 4 ((3 * m + l) * 8 + u) = iI (gnq (Cn pg kd) q l : Nat)) ∧ (∀ o j, ¬ ((o = 3 ∨ o = 4) ∧ j % 8 = u ∧ j / 24 = m) → rd w' g o j = rd w g o j) := by
  unfold X0_layOut
  have fz : ∀ {w0 : Wd} {o j : Nat} {v : Int32}, Fr (SG g) w0 (wr w0 g o j v) := fun {w0 o j v} => (Fr.rf _ w0).wr v rfl
  have lx1 : ∀ {w0 : Wd} {j1 j2 : Nat} {v1 v2 : Int32}, LX w0 g pg kd → LX (wr (wr w0 g 3 j1 v1) g 4 j2 v2) g pg kd := fun {w0 j1 j2 v1 v2} h0 => h0.fr (fun o j ho => by rw [rd_o (by omega), rd_o (by omega)])
  have e0 := x_layStep h hW hq hm hu (show 0 < 3 by decide) 999
  generalize hw1 : wr (wr w g 3 ((3 * m + 0) * 8 + u) (oE (nxq q 0))) g 4 ((3 * m + 0) * 8 + u) (iI (gnq (Cn pg kd) q 0 : Nat)) = w1 at e0
  have l1 : LX w1 g pg kd := by rw [← hw1]; exact lx1 h
  have e1 := x_layStep l1 hW hq hm hu (show 1 < 3 by decide) 998
  generalize hw2 : wr (wr w1 g 3 ((3 * m + 1) * 8 + u) (oE (nxq q 1))) g 4 ((3 * m + 1) * 8 + u) (iI (gnq (Cn pg kd) q 1 : Nat)) = w2 at e1
  have l2 : LX w2 g pg kd := by rw [← hw2]; exact lx1 l1
  have e2 := x_layStep l2 hW hq hm hu (show 2 < 3 by decide) 997
  generalize hw3 : wr (wr w2 g 3 ((3 * m + 2) * 8 + u) (oE (nxq q 2))) g 4 ((3 * m + 2) * 8 + u) (iI (gnq (Cn pg kd) q 2 : Nat)) = w3 at e2
  refine ⟨w3, ?_, ?_, ?_, ?_⟩
  · rw [show (iI 0 : Int32) = iI ((0 : Nat) : Int) from rfl, e0, e1, e2, X0_layOut_L3, if_pos (by decide)]
  · rw [← hw3, ← hw2, ← hw1]
    exact ((((fz.tr fz).tr fz).tr fz).tr fz).tr fz
  · intro l hl
    rcases (show l = 0 ∨ l = 1 ∨ l = 2 by omega) with rfl | rfl | rfl
    · rw [← hw3, rd_o (by decide), rd_j (by omega), rd_j (by omega), rd_o (by decide), ← hw2, rd_o (by decide), rd_j (by omega), rd_j (by omega), rd_o (by decide), ← hw1, rd_o (by decide), rd_eq, rd_eq]
      exact ⟨rfl, rfl⟩
    · rw [← hw3, rd_o (by decide), rd_j (by omega), rd_j (by omega), rd_o (by decide), ← hw2, rd_o (by decide), rd_eq, rd_eq]
      exact ⟨rfl, rfl⟩
    · rw [← hw3, rd_o (by decide), rd_eq, rd_eq]
      exact ⟨rfl, rfl⟩
  · intro o j hn
    rw [← hw3, rd_ne (by omega), rd_ne (by omega), ← hw2, rd_ne (by omega), rd_ne (by omega), ← hw1, rd_ne (by omega), rd_ne (by omega)]
end LOAD

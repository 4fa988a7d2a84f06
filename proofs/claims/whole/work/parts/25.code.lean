/-! code, ink, points. -/
theorem flt_le (pl : Nat) (pg : Nat → Nat) : flt pl pg ≤ pl := by
  unfold flt
  by_cases h : pl = 0
  · rw [if_pos h]; omega
  · rw [if_neg h]
    cases kindc (pg 0) with
    | none => exact Nat.zero_le _
    | some kd => have := ffL_le kd pg (pl - 1) 1; show ffL kd pg (pl - 1) 1 ≤ pl; omega
theorem flt_whole {pl kd : Nat} {pg : Nat → Nat} (hk : kindc (pg 0) = some kd) (h0 : pl ≠ 0) : flt pl pg = pl ↔ ∀ j, 0 < j → j < pl → fitB kd j (pg j) = true := by
  unfold flt
  rw [if_neg h0, hk]
  show ffL kd pg (pl - 1) 1 = pl ↔ _
  have := ffL_all kd pg (pl - 1) 1
  rw [show 1 + (pl - 1) = pl by omega] at this
  rw [this]
  exact ⟨fun h j a b => h j (by omega) b, fun h j a b => h j (by omega) b⟩
theorem x_isWhole {w : Wd} {pl : Nat} {pg : Nat → Nat} (h40 : pl ≤ 40) (hg : ∀ j, j < pl → pg j < 127 ∧ rd w 0 1 j = iI (pg j : Nat)) :
    ((∃ kd, Whole pg kd ∧ pl = lets kd) → X2_isWhole w (iI pl) = some (iI 1)) ∧ ((¬ ∃ kd, Whole pg kd ∧ pl = lets kd) → X2_isWhole w (iI pl) = some (iI 0)) := by
  unfold X2_isWhole
  by_cases h0 : pl = 0
  · rw [if_pos (yL0 (by omega) (by omega))]
    exact ⟨fun ⟨kd, _, h⟩ => by have := lets_le kd; omega, fun _ => rfl⟩
  · have g0 := hg 0 (by omega)
    rw [if_neg (nL0 (by omega) (by omega)), if_pos (yL (by omega) (by omega) (by omega)), ga_e (k := 0) (by omega) (by omega) (by decide), g0.2, bnd_e, x_kindOf g0.1]
    cases e : kindc (pg 0) with
    | none =>
      rw [show oE none = iI (-1) from rfl, if_pos rfl]
      exact ⟨fun ⟨kd, h, _⟩ => (by have := h.1; rw [e] at this; cases this), fun _ => rfl⟩
    | some kd =>
      have hk := (kindc_lt e).1
      have hl := lets_le kd
      rw [show oE (some kd) = iI (kd : Nat) from rfl, if_neg (nE (by omega) (by omega) (by omega)), x_textLength hk]
      by_cases hle : pl = lets kd
      · rw [if_pos (yE (by omega)), x_fault h40 hg, ob_s]
        have hfl := flt_le pl pg
        have hfw := flt_whole (pl := pl) e h0
        by_cases hw : flt pl pg = pl
        · rw [if_pos (yE (by omega))]
          refine ⟨fun _ => rfl, fun h => absurd ⟨kd, ⟨e, fun j a b => hfw.mp hw j a (by omega), fun j hj => (hg j (by omega)).1⟩, hle⟩ h⟩
        · rw [if_neg (nE (by omega) (by omega) (by omega))]
          refine ⟨fun ⟨kd', h, h2⟩ => ?_, fun _ => rfl⟩
          have := h.1
          rw [e] at this
          cases this
          exact absurd (hfw.mpr (fun j a b => h.2.1 j a (by omega))) hw
      · rw [if_neg (nE (by omega) (by omega) (by omega))]
        refine ⟨fun ⟨kd', h, h2⟩ => ?_, fun _ => rfl⟩
        have := h.1
        rw [e] at this
        cases this
        exact absurd h2 hle
theorem op_code {w : Wd} (h : Rel w) : ∃ r w1 w2, X6_code w = some (r, w1) ∧ X7_code w1 = some (r, w2) ∧ Rel w2 := by
  obtain ⟨pl, cm, ln, n, us, pg, C, hR⟩ := id h
  obtain ⟨p1, p2, p3, p4⟩ := hR.1
  obtain ⟨u1, u2, u3, u4, u5, u6, u7, u8⟩ := hR.2.1
  obtain ⟨c1, c2, c3, c4⟩ := hR.2.2.2.1
  have xw := x_isWhole (w := w) (pg := pg) p1 (fun j hj => ⟨(p4 j hj).2.1, (p4 j hj).2.2.1⟩)
  have hfl := flt_le pl pg
  unfold X6_code
  rw [p2]
  by_cases hw : ∃ kd, Whole pg kd ∧ pl = lets kd
  · rw [xw.1 hw, ob_s, if_neg n10, c2]
    obtain ⟨kd, hW, hpl⟩ := hw
    have hk := (kindc_lt hW.1).1
    have hl := lets_le kd
    have hfeq : flt pl pg = pl := (flt_whole hW.1 (by omega)).mpr (fun j a b => hW.2.1 j a (by omega))
    by_cases full : n = 4
    · rw [if_neg (nT (by omega) (by omega) (by omega))]
      obtain ⟨w2, e1, e2, e3⟩ := m_read (w := w) (pg := pg) p1 p3 (fun j hj => ⟨(p4 j hj).2.1, (p4 j hj).2.2.2⟩)
      refine ⟨_, w, w2, rfl, ?_, pl, cm, ln, n, us, pg, C, hR.fr (e2.mono (fun _ _ _ => SNew_sc))⟩
      unfold X7_code
      rw [e1, bI_s, hfeq, e2.1 12 0 10 (by unfold SNew; omega), p3, if_neg (nT (by omega) (by omega) (by omega)), if_neg (nE0 (by omega) (by omega)), e3 (by omega), hW.1, show oE (some kd) = iI (kd : Nat) from rfl, m_lettersOf hk, if_pos (yL (by omega) (by omega) (by omega)), e2.1 12 0 0 (by unfold SNew; omega), c3, if_pos (yE (by omega))]
    · rw [if_pos (yT (by omega) (by omega) (by omega)), bnd_e, ix_n (by omega) (by decide), hpl]
      obtain ⟨w4, l1, l2, l3⟩ := x_load (w := w) (g := n + 1) hW (by omega) (fun j hj => (p4 j (by omega)).2.2.1)
      rw [l1, ob_s, ix_n (by omega) (by decide), l2.1 0 0 3 (by unfold SG; omega), u4]
      obtain ⟨w6, k1, k2, k3⟩ := x_follow (w := w4) (g := n + 5) (C := Cn pg kd) (us := us) (cm := cm) (by rw [show n + 5 - 4 = n + 1 by omega]; exact l3) (Cn_ok hW) (by omega) (by omega) (fun j hj => ⟨(u8 j hj).1, by rw [l2.1 0 2 j (by unfold SG; omega)]; exact (u8 j hj).2.1⟩)
      have f6 : ∀ g o j, g ≠ n + 1 → g ≠ n + 5 → rd w6 g o j = rd w g o j := fun g o j a b => by rw [k2.1 g o j b, l2.1 g o j a]
      rw [k1, ob_s, bnd_e, bnd_e, bnd_e, f6 0 0 7 (by omega) (by omega), c2, rd_j (by decide), f6 0 0 8 (by omega) (by omega), iI_add]
      generalize hw9 : wr (wr (wr w6 0 0 7 (iI ((n : Int) + 1))) 0 0 8 (rd w 0 0 8 + iI 1)) 0 0 1 (iI 0) = w9
      have f9 : ∀ g o j, ¬ (g = 0 ∧ o = 0 ∧ (j = 7 ∨ j = 8 ∨ j = 1)) → rd w9 g o j = rd w6 g o j := fun g o j hn => by rw [← hw9, rd_ne (by omega), rd_ne (by omega), rd_ne (by omega)]
      have f9w : ∀ g o j, g ≠ n + 1 → g ≠ n + 5 → ¬ (g = 0 ∧ o = 0 ∧ (j = 7 ∨ j = 8 ∨ j = 1)) → rd w9 g o j = rd w g o j := fun g o j a b d => by rw [f9 g o j d, f6 g o j a b]
      have h92 : w9.2 = w.2 := by rw [← hw9]; show w6.2 = w.2; rw [k2.2, l2.2]
      obtain ⟨wA, a1, a2, a3⟩ := m_read (w := w9) (pl := pl) (pg := pg) p1 (by rw [f9w 12 0 10 (by omega) (by omega) (by omega)]; exact p3) (fun j hj => ⟨(p4 j hj).2.1, by rw [f9w 12 6 j (by omega) (by omega) (by omega)]; exact (p4 j hj).2.2.2⟩)
      have a3' : rd wA 12 0 12 = iI (kd : Nat) := by rw [a3 (by omega), hW.1]; rfl
      obtain ⟨wB, b1, b2, b3⟩ := m_layCode (w := wA) (c := n) hW (by omega) a3' (fun j hj => by rw [a2.1 12 6 j (by unfold SNew; omega), f9w 12 6 j (by omega) (by omega) (by omega)]; exact (p4 j (by omega)).2.2.2)
      have fB : ∀ g o j, ¬ SNew g o j → ¬ SLay n g o j → rd wB g o j = rd w9 g o j := fun g o j x y => by rw [b2.1 g o j y, a2.1 g o j x]
      generalize hwF : wr (wr (wr wB 12 0 0 (iI ((n : Int) + 1))) 12 0 5 (rd w 12 0 5 + iI 1)) 12 0 10 (iI 0) = wF
      have fF : ∀ g o j, ¬ (g = 12 ∧ o = 0 ∧ (j = 0 ∨ j = 5 ∨ j = 10)) → rd wF g o j = rd wB g o j := fun g o j hn => by rw [← hwF, rd_ne (by omega), rd_ne (by omega), rd_ne (by omega)]
      have gA : ∀ g o j, g ≠ 12 → rd wF g o j = rd w9 g o j := fun g o j hg => by rw [fF g o j (by omega), fB g o j (by unfold SNew; omega) (by unfold SLay; omega)]
      have gM : ∀ o j, o = 0 ∧ j ≠ 0 ∧ j ≠ 5 ∧ j ≠ 10 ∧ j ≠ 12 ∨ 5 ≤ o → rd wF 12 o j = rd w 12 o j := fun o j hn => by rw [fF 12 o j (by omega), fB 12 o j (by unfold SNew; omega) (by unfold SLay; omega), f9w 12 o j (by omega) (by omega) (by omega)]
      refine ⟨iI (n : Nat), w9, wF, rfl, ?_, 0, cm, ln, n + 1, us, pg, fun c => if c = n then Cn pg kd else C c, ?_⟩
      · unfold X7_code
        rw [a1, bI_s, hfeq, a2.1 12 0 10 (by unfold SNew; omega), f9w 12 0 10 (by omega) (by omega) (by omega), p3, if_neg (nT (by omega) (by omega) (by omega)), if_neg (nE0 (by omega) (by omega)), a3', m_lettersOf hk, if_pos (yL (by omega) (by omega) (by omega)), a2.1 12 0 0 (by unfold SNew; omega), f9w 12 0 0 (by omega) (by omega) (by omega), c3, if_neg (nE (by omega) (by omega) (by omega)), b1, ob_s]
        simp only [bnd_e]
        rw [fB 12 0 0 (by unfold SNew; omega) (by unfold SLay; omega), f9w 12 0 0 (by omega) (by omega) (by omega), c3, iI_add]
        have e5 : rd (wr wB 12 0 0 (iI ((n : Int) + 1))) 12 0 5 = rd w 12 0 5 := by rw [rd_j (by decide), fB 12 0 5 (by unfold SNew; omega) (by unfold SLay; omega), f9w 12 0 5 (by omega) (by omega) (by omega)]
        rw [e5, hwF]
        have : rd wF 12 0 0 = iI ((n : Int) + 1) := by rw [← hwF, rd_j (by decide), rd_j (by decide), rd_eq]
        rw [this, iI_sub]
        congr 3; omega
      · refine ⟨⟨by omega, ?_, ?_, fun j hj => by omega⟩, ⟨u1, u2, u3, ?_, ?_, ?_, ?_, fun j hj => ⟨(u8 j hj).1, ?_, ?_⟩⟩, ⟨?_, ?_⟩, ⟨by omega, ?_, ?_, fun c hc => ?_⟩, fun c hc => ?_⟩
        · rw [gA 0 0 1 (by omega), ← hw9, rd_eq]; rfl
        · rw [← hwF, rd_eq]; rfl
        · rw [gA 0 0 3 (by omega), f9w 0 0 3 (by omega) (by omega) (by omega)]; exact u4
        · rw [gM 0 8 (by omega)]; exact u5
        · rw [gA 0 0 4 (by omega), f9w 0 0 4 (by omega) (by omega) (by omega)]; exact u6
        · rw [gM 0 7 (by omega)]; exact u7
        · rw [gA 0 2 j (by omega), f9w 0 2 j (by omega) (by omega) (by omega)]; exact (u8 j hj).2.1
        · rw [gM 5 j (by omega)]; exact (u8 j hj).2.2
        · rw [gA 0 0 8 (by omega), ← hw9, rd_j (by decide), rd_eq, ← hwF, rd_j (by decide), rd_eq, hR.2.2.1.1]
        · rw [gA 0 0 9 (by omega), f9w 0 0 9 (by omega) (by omega) (by omega), gM 0 6 (by omega)]; exact hR.2.2.1.2
        · rw [gA 0 0 7 (by omega), ← hw9, rd_j (by decide), rd_j (by decide), rd_eq]; rfl
        · rw [← hwF, rd_j (by decide), rd_j (by decide), rd_eq]; rfl
        · by_cases hcn : c = n
          · subst hcn
            dsimp only
            rw [if_pos rfl]
            exact ⟨Cn_ok hW, l3.fr (fun o j _ => by rw [gA _ o j (by omega), f9 _ o j (by omega), k2.1 _ o j (by unfold SG; omega)]), b3.fr (fun o j h1 h2 => fF 12 o j (by omega))⟩
          · dsimp only
            rw [if_neg hcn]
            obtain ⟨d1, d2, d3⟩ := c4 c (by omega)
            refine ⟨d1, d2.fr (fun o j _ => by rw [gA _ o j (by omega), f9w _ o j (by omega) (by omega) (by omega)]), ?_⟩
            have fz : ∀ o j, 1 ≤ o → o < 5 → ¬ SLay n 12 o j → rd wF 12 o j = rd w 12 o j := fun o j h1 h2 h3 => by rw [fF 12 o j (by omega), fB 12 o j (by unfold SNew; omega) h3, f9w 12 o j (by omega) (by omega) (by omega)]
            obtain ⟨m1, m2, m3, m4⟩ := d3
            refine ⟨by rw [fz 1 c (by decide) (by decide) (by unfold SLay; omega)]; exact m1, by rw [fz 2 c (by decide) (by decide) (by unfold SLay; omega)]; exact m2, fun k hk => by rw [fz 3 _ (by decide) (by decide) (by unfold SLay; omega)]; exact m3 k hk, fun k hk => by rw [fz 4 _ (by decide) (by decide) (by unfold SLay; omega)]; exact m4 k hk⟩
        · by_cases hcn : c = n
          · subst hcn
            dsimp only
            rw [if_pos rfl]
            exact k3.fr (fun o j => by rw [gA _ o j (by omega), f9 _ o j (by omega)])
          · dsimp only
            rw [if_neg hcn]
            exact (hR.2.2.2.2 c (by omega)).fr (fun o j => by rw [gA _ o j (by omega), f9w _ o j (by omega) (by omega) (by omega)])
  · rw [xw.2 hw, ob_s, if_pos (yE0 rfl)]
    obtain ⟨w2, e1, e2, e3⟩ := m_read (w := w) (pg := pg) p1 p3 (fun j hj => ⟨(p4 j hj).2.1, (p4 j hj).2.2.2⟩)
    refine ⟨_, w, w2, rfl, ?_, pl, cm, ln, n, us, pg, C, hR.fr (e2.mono (fun _ _ _ => SNew_sc))⟩
    unfold X7_code
    rw [e1, bI_s, e2.1 12 0 10 (by unfold SNew; omega), p3]
    by_cases hlt : flt pl pg < pl
    · rw [if_pos (yT (by omega) (by omega) (by omega))]
    · rw [if_neg (nT (by omega) (by omega) (by omega))]
      by_cases h0 : pl = 0
      · rw [if_pos (yE0 (by omega))]
      · rw [if_neg (nE0 (by omega) (by omega)), e3 (by omega)]
        cases ek : kindc (pg 0) with
        | none =>
          exfalso
          have : flt pl pg = 0 := by unfold flt; rw [if_neg h0, ek]
          omega
        | some kd =>
          have hk := (kindc_lt ek).1
          have hl := lets_le kd
          have hall := (flt_whole (pl := pl) ek h0).mp (by omega)
          have hpl : pl ≤ lets kd := by
            rcases Nat.lt_or_ge (lets kd) pl with q | q
            · have := hall (lets kd) (by omega) q
              rw [fit_end (Nat.le_refl _)] at this
              cases this
            · exact q
          have hne : pl ≠ lets kd := fun e => hw ⟨kd, ⟨ek, fun j a b => hall j a (by omega), fun j hj => (p4 j (by omega)).2.1⟩, e⟩
          rw [show oE (some kd) = iI (kd : Nat) from rfl, m_lettersOf hk, if_neg (nL (by omega) (by omega) (by omega))]

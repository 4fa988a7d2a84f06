/-! A run over the units: by the reference's registers, and kept by a Reading. -/
def MReg (w : Wd) (r : Rn) : Prop := rd w 12 0 14 = (if r.1 = true then iI ((r.2.2.1 / 3 : Nat) : Int) else iI (-1)) ∧ rd w 12 0 15 = iI (((r.2.2.1 % 3 : Nat) : Int) - 1) ∧ rd w 12 0 16 = iI (r.2.2.2.1 : Nat) ∧ rd w 12 0 17 = iI (r.2.2.2.2.1 : Nat) ∧ rd w 12 0 18 = iI (r.2.1 : Nat) ∧ ∀ i, i < 4 → rd w 12 7 i = iI (r.2.2.2.2.2 i : Nat)
def SRun (g o j : Nat) : Prop := g = 12 ∧ ((o = 0 ∧ 13 ≤ j ∧ j ≤ 18) ∨ o = 7)
theorem SRun_sc {g o j : Nat} (h : SRun g o j) : Sc g o j := by unfold SRun at h; unfold Sc ScM; omega
theorem rd_o {w : Wd} {g o j g' o' j' : Nat} {v : Int32} (h : o' ≠ o) : rd (wr w g o j v) g' o' j' = rd w g' o' j' := rd_ne (fun z => h z.2.1)
theorem rd_j {w : Wd} {g o j g' o' j' : Nat} {v : Int32} (h : j' ≠ j) : rd (wr w g o j v) g' o' j' = rd w g' o' j' := rd_ne (fun z => h z.2.2)
theorem rd_g {w : Wd} {g o j g' o' j' : Nat} {v : Int32} (h : g' ≠ g) : rd (wr w g o j v) g' o' j' = rd w g' o' j' := rd_ne (fun z => h z.1)
theorem trc_in {C : Cd} {m u : Nat} (h : m < ms C) : trc C m u = tr C m u := by unfold trc; rw [if_pos h]
theorem rnS_none {C : Cd} {u sd p sg wt : Nat} {pr : Nat → Nat} (e : trc C (p / 3) u = none) : rnS C u (true, sd, p, sg, wt, pr) = (false, sd, p, sg, wt, pr) := by unfold rnS; simp [e]
theorem rnS_zero {C : Cd} {u sd p sg wt m' : Nat} {pr : Nat → Nat} (e : trc C (p / 3) u = some (m', 0)) : rnS C u (true, sd, p, sg, wt, pr) = (true, sd + 1, 3 * m' + p % 3, sg, wt, pr) := by unfold rnS; simp [e]
theorem rnS_first {C : Cd} {u sd p sg wt m' s : Nat} {pr : Nat → Nat} (e : trc C (p / 3) u = some (m', s)) (hs : s ≠ 0) (hp : p % 3 = 0) : rnS C u (true, sd, p, sg, wt, pr) = (true, sd + 1, 3 * m' + s, sg + 1, wt, pr) := by unfold rnS; simp [e, hs, hp]
theorem rnS_pair {C : Cd} {u sd p sg wt m' s : Nat} {pr : Nat → Nat} (e : trc C (p / 3) u = some (m', s)) (hs : s ≠ 0) (hp : p % 3 ≠ 0) : rnS C u (true, sd, p, sg, wt, pr) = (true, sd + 1, 3 * m' + s, sg + 1, wt + C.2.2.2 ((p % 3 - 1) * 2 + (s - 1)), fun i => if i = (p % 3 - 1) * 2 + (s - 1) then pr i + 1 else pr i) := by unfold rnS; simp [e, hs, hp]
theorem rnS_dead {C : Cd} {u sd p sg wt : Nat} {pr : Nat → Nat} : rnS C u (false, sd, p, sg, wt, pr) = (false, sd, p, sg, wt, pr) := by unfold rnS; simp
theorem m_goOn {w : Wd} {c : Nat} {C : Cd} (hC : CodeM w c C) (hk : cok C) (hc : c < 4) {r : Rn} (h : MReg w r) (ha : r.1 = true) (hp : r.2.2.1 < 3 * ms C) {u : Nat} (hu : u < 8) : ∃ w', X7_goOn w (iI c) (iI u) = some w' ∧ MReg w' (rnS C u r) ∧ Fr SRun w w' := by
  obtain ⟨a, sd, p, sg, wt, pr⟩ := r
  dsimp only at ha hp
  subst ha
  obtain ⟨h14, h15, h16, h17, h18, h7⟩ := h
  dsimp only at h14 h15 h16 h17 h18 h7
  have hms := ms_le C
  have hp3 : p / 3 < ms C := by omega
  rw [if_pos rfl] at h14
  unfold X7_goOn
  rw [h14, m_step hC hk hc hp3 hu, bI_s, bnd_e]
  cases e : tr C (p / 3) u with
  | none =>
    have e2 : trc C (p / 3) u = none := by rw [trc_in hp3]; exact e
    rw [rnS_none e2]
    refine ⟨_, by rw [show oE (Option.map (fun q => q.1) (none : Option (Nat × Nat))) = iI (-1) from rfl, if_pos rfl]; unfold X7_goOn_L31; rw [if_pos rfl], ?_, ?_⟩
    · unfold MReg
      simp [rd_wr, h15, h16, h17, h18]
      exact h7
    · refine ((Fr.rf SRun w).wr _ ?_).wr _ ?_ <;> unfold SRun <;> omega
  | some q =>
    obtain ⟨m', s⟩ := q
    have e2 : trc C (p / 3) u = some (m', s) := by rw [trc_in hp3]; exact e
    obtain ⟨-, q1, q2⟩ := trc_ok hk hu e2
    rw [show oE (Option.map (fun q => q.1) (some (m', s))) = iI (m' : Nat) from rfl, if_neg (nE (by omega) (by omega) (by omega)), bnd_e]
    unfold X7_goOn_L31
    rw [if_neg (nE (by omega) (by omega) (by omega))]
    generalize hw4 : wr (wr (wr w 12 0 13 (sE (some (m', s)))) 12 0 14 (iI (m' : Nat))) 12 0 18 (rd (wr (wr w 12 0 13 (sE (some (m', s)))) 12 0 14 (iI (m' : Nat))) 12 0 18 + iI 1) = w4
    have f4 : Fr SRun w w4 := by
      rw [← hw4]
      refine (((Fr.rf SRun w).wr _ ?_).wr _ ?_).wr _ ?_ <;> unfold SRun <;> omega
    have g13 : rd w4 12 0 13 = iI ((s : Int) - 1) := by rw [← hw4]; simp [rd_wr]; rfl
    have g14 : rd w4 12 0 14 = iI (m' : Nat) := by rw [← hw4]; simp [rd_wr]
    have g15 : rd w4 12 0 15 = iI (((p % 3 : Nat) : Int) - 1) := by rw [← hw4]; simp [rd_wr, h15]
    have g16 : rd w4 12 0 16 = iI (sg : Nat) := by rw [← hw4]; simp [rd_wr, h16]
    have g17 : rd w4 12 0 17 = iI (wt : Nat) := by rw [← hw4]; simp [rd_wr, h17]
    have g18 : rd w4 12 0 18 = iI ((sd + 1 : Nat) : Int) := by rw [← hw4]; simp [rd_wr, h18, iI_add]
    have g7 : ∀ i, i < 4 → rd w4 12 7 i = iI (pr i : Nat) := by intro i hi; rw [← hw4]; simp [rd_wr, h7 i hi]
    have gp : ∀ i, i < 4 → rd w4 12 4 (4 * c + i) = iI (C.2.2.2 i : Nat) := by intro i hi; rw [f4.1 _ _ _ (by unfold SRun; omega)]; exact hC.2.2.2 i hi
    clear hw4
    by_cases hs : s = 0
    · subst hs
      rw [rnS_zero e2, g13, if_pos (yE (by omega))]
      refine ⟨_, rfl, ⟨?_, ?_, g16, g17, g18, g7⟩, f4⟩
      · rw [g14, if_pos rfl]; dsimp only; congr 2; omega
      · rw [g15]; dsimp only; congr 1; omega
    · rw [g13, if_neg (nE (by omega) (by omega) (by omega)), g15]
      by_cases hp0 : p % 3 = 0
      · rw [rnS_first e2 hs hp0, if_pos (yE (by omega)), bnd_e, bnd_e]
        refine ⟨_, rfl, ?_, ?_⟩
        · unfold MReg
          simp only [rd_wr]
          simp [g13, g14, g16, g17, g18, iI_add]
          refine ⟨?_, ?_, g7⟩
          · congr 1; omega
          · congr 1; omega
        · refine (f4.wr _ ?_).wr _ ?_ <;> unfold SRun <;> omega
      · rw [rnS_pair e2 hs hp0, if_neg (nE (by omega) (by omega) (by omega)), iI_mul, iI_add]
        have hi : (p % 3 - 1) * 2 + (s - 1) < 4 := by omega
        generalize hii : (p % 3 - 1) * 2 + (s - 1) = ii at hi ⊢
        rw [ga_e (k := ii) (by omega) hi (by decide), pa_e (k := ii) (by omega) hi (by decide), g7 ii hi, iI_add]
        rw [rd_o (by decide), rd_o (by decide), g15, g13, iI_mul, iI_mul, iI_add, iI_add, ga_e (k := 4 * c + ii) (by omega) (by omega) (by decide), rd_o (by decide), rd_o (by decide), gp ii hi, g17, iI_add, bnd_e, bnd_e, bnd_e]
        refine ⟨_, rfl, ?_, ?_⟩
        · unfold MReg
          simp only [rd_wr]
          simp [g13, g14, g16, g17, g18, iI_add]
          refine ⟨?_, ?_, ?_⟩
          · congr 1; omega
          · congr 1; omega
          · intro i hi2
            by_cases ei : i = ii
            · subst ei; simp
            · simp [ei, g7 i hi2]
        · refine (((f4.wr _ ?_).wr _ ?_).wr _ ?_).wr _ ?_ <;> unfold SRun <;> omega

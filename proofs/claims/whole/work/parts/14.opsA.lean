/-! The plain calls: letter, blank, unit, drop. -/
theorem wi_iff {a b c : Int} (ha : inR a) (hb : inR b) (hc : inR c) : X7_within (iI a) (iI b) (iI c) = 0 ↔ ¬ (b ≤ a ∧ a ≤ c) := by
  unfold X7_within
  rw [show (if iI a < iI b then iI 0 else if iI c < iI a then iI 0 else iI 1) = (if b ≤ a ∧ a ≤ c then iI 1 else iI 0) from by
    by_cases h1 : a < b
    · rw [if_pos ((iI_lt ha hb).mpr h1), if_neg (by omega)]
    · rw [if_neg (fun q => h1 ((iI_lt ha hb).mp q))]
      by_cases h2 : c < a
      · rw [if_pos ((iI_lt hc ha).mpr h2), if_neg (by omega)]
      · rw [if_neg (fun q => h2 ((iI_lt hc ha).mp q)), if_pos (by omega)]]
  by_cases h : b ≤ a ∧ a ≤ c
  · rw [if_pos h]; exact ⟨fun q => absurd q (by decide), fun q => absurd h q⟩
  · rw [if_neg h]; exact ⟨fun _ => h, fun _ => rfl⟩
def SPage (g o j : Nat) : Prop := (g = 0 ∧ ((o = 0 ∧ j = 1) ∨ o = 1)) ∨ (g = 12 ∧ ((o = 0 ∧ j = 10) ∨ o = 6))
theorem RelA.page {w w' : Wd} {pl cm ln n pl' : Nat} {us pg pg' : Nat → Nat} {C : Nat → Cd} (h : RelA w pl cm ln n us pg C) (f : Fr SPage w w') (hp : PageR w' pl' pg') : RelA w' pl' cm ln n us pg' C := by
  obtain ⟨h1, h2, h3, h4, h5⟩ := h
  have f0 : ∀ o j, ¬ (o = 0 ∧ j = 1) → o ≠ 1 → rd w' 0 o j = rd w 0 o j := fun o j a b => f.1 0 o j (by unfold SPage; omega)
  have fM : ∀ o j, ¬ (o = 0 ∧ j = 10) → o ≠ 6 → rd w' 12 o j = rd w 12 o j := fun o j a b => f.1 12 o j (by unfold SPage; omega)
  have fG : ∀ g o j, 0 < g → g < 12 → rd w' g o j = rd w g o j := fun g o j a b => f.1 g o j (by unfold SPage; omega)
  refine ⟨hp, ?_, ?_, ?_, ?_⟩
  · unfold UnitR at h2 ⊢
    simp only [f0 0 3 (by decide) (by decide), f0 0 4 (by decide) (by decide), f0 2 _ (by simp) (by decide), fM 0 8 (by decide) (by decide), fM 0 7 (by decide) (by decide), fM 5 _ (by simp) (by decide)]
    exact h2
  · unfold EverR at h3 ⊢
    simp only [f0 0 8 (by decide) (by decide), f0 0 9 (by decide) (by decide), fM 0 5 (by decide) (by decide), fM 0 6 (by decide) (by decide)]
    exact h3
  · obtain ⟨a1, a2, a3, a4⟩ := h4
    refine ⟨a1, by rw [f0 0 7 (by decide) (by decide)]; exact a2, by rw [fM 0 0 (by decide) (by decide)]; exact a3, fun c hc => ?_⟩
    obtain ⟨b1, b2, b3⟩ := a4 c hc
    exact ⟨b1, b2.fr (fun o j ho => fG _ o j (by omega) (by omega)), b3.fr (fun o j h1 h2 => fM o j (by omega) (by omega))⟩
  · intro c hc
    exact (h5 c hc).fr (fun o j => fG _ o j (by omega) (by have := h4.1; omega))
theorem op_letter {w : Wd} (h : Rel w) (a : Int32) : ∃ r w1 w2, X6_letter w a = some (r, w1) ∧ X7_letter w1 a = some (r, w2) ∧ Rel w2 := by
  obtain ⟨pl, cm, ln, n, us, pg, C, hR⟩ := id h
  obtain ⟨p1, p2, p3, p4⟩ := hR.1
  obtain ⟨z, hz, rfl⟩ := iI_ex a
  have wi := wi_iff (a := z) (b := 32) (c := 126) hz (by decide) (by decide)
  by_cases out : z < 32 ∨ 126 < z
  · refine ⟨iI (-102), w, w, ?_, ?_, h⟩
    · unfold X6_letter
      by_cases h1 : z < 32
      · rw [if_pos ((iI_lt hz (by decide)).mpr h1)]
      · rw [if_neg (fun q => h1 ((iI_lt hz (by decide)).mp q)), if_neg (fun q => by have := (iI_le hz (by decide)).mp q; omega)]
    · unfold X7_letter
      rw [if_pos (wi.mpr (by omega))]
  · have in1 : ¬ iI z < iI 32 := fun q => by have := (iI_lt hz (by decide)).mp q; omega
    have in2 : iI z ≤ iI 126 := (iI_le hz (by decide)).mpr (by omega)
    have in3 : ¬ X7_within (iI z) (iI 32) (iI 126) = 0 := fun q => wi.mp q (by omega)
    by_cases full : pl = 40
    · subst full
      refine ⟨iI (-104), w, w, ?_, ?_, h⟩
      · unfold X6_letter
        rw [if_neg in1, if_pos in2, p2, if_neg (by decide)]
      · unfold X7_letter
        rw [if_neg in3, p3, if_pos (by decide)]
    · have hpl : pl < 40 := by omega
      refine ⟨iI ((pl : Int) + 1), wr (wr w 0 1 pl (iI z)) 0 0 1 (iI ((pl : Int) + 1)), wr (wr (wr (wr w 0 1 pl (iI z)) 0 0 1 (iI ((pl : Int) + 1))) 12 6 pl (iI z)) 12 0 10 (iI ((pl : Int) + 1)), ?_, ?_, ?_⟩
      · unfold X6_letter
        rw [if_neg in1, if_pos in2, p2, if_pos ((iI_lt ⟨by omega, by omega⟩ (by decide)).mpr (by omega)), pa_n hpl (by decide)]
        simp only [bnd_e, rd_wr]
        simp [p2, iI_add]
      · unfold X7_letter
        rw [if_neg in3]
        simp only [rd_wr]
        simp [p3]
        rw [if_neg (fun q => by have := (iI_eq ⟨by omega, by omega⟩ (by decide)).mp q; omega), pa_n hpl (by decide)]
        simp only [bnd_e, rd_wr]
        simp [p3, iI_add]
      · refine ⟨pl + 1, cm, ln, n, us, fun j => if j = pl then z.toNat else pg j, C, hR.page ?_ ?_⟩
        · refine (((Fr.rf SPage w).wr (iI z) ?_).wr _ ?_).wr (iI z) ?_ |>.wr _ ?_ <;> unfold SPage <;> simp
        · refine ⟨by omega, by simp [rd_wr], by simp [rd_wr], fun j hj => ?_⟩
          by_cases e : j = pl
          · subst e
            have hz2 : ((z.toNat : Nat) : Int) = z := by omega
            simp only [rd_wr]
            simp [hz2]
            omega
          · obtain ⟨b1, b2, b3, b4⟩ := p4 j (by omega)
            simp only [rd_wr]
            simp [e, b1, b2, b3, b4]
theorem op_blank {w : Wd} (h : Rel w) : ∃ r w1 w2, X6_blank w = some (r, w1) ∧ X7_blank w1 = some (r, w2) ∧ Rel w2 := by
  obtain ⟨pl, cm, ln, n, us, pg, C, hR⟩ := id h
  obtain ⟨p1, p2, p3, p4⟩ := hR.1
  refine ⟨iI pl, wr w 0 0 1 (iI 0), wr (wr w 0 0 1 (iI 0)) 12 0 10 (iI 0), by unfold X6_blank; simp only [bnd_e, p2], ?_, 0, cm, ln, n, us, pg, C, hR.page ?_ ?_⟩
  · unfold X7_blank
    simp only [bnd_e, rd_wr]
    simp [p3]
  · refine ((Fr.rf SPage w).wr (iI 0) ?_).wr _ ?_ <;> unfold SPage <;> simp
  · refine ⟨by omega, by simp [rd_wr], by simp [rd_wr], fun j hj => by omega⟩
theorem op_unit {w : Wd} (h : Rel w) (a : Int32) : ∃ r, X6_unit w a = some r ∧ X7_unit w a = some r := by
  obtain ⟨pl, cm, ln, n, us, pg, C, hR⟩ := h
  obtain ⟨u1, u2, u3, u4, u5, -, -, u8⟩ := hR.2.1
  obtain ⟨z, hz, rfl⟩ := iI_ex a
  have wi := wi_iff (a := z) (b := 0) (c := (cm : Int) - 1) hz (by decide) ⟨by omega, by omega⟩
  unfold X6_unit X7_unit
  rw [u4, u5, iI_sub]
  by_cases h1 : z < 0
  · exact ⟨iI (-101), by rw [if_pos ((iI_lt0 hz).mpr h1)], by rw [if_pos (wi.mpr (by omega))]⟩
  · rw [if_neg (fun q => h1 ((iI_lt0 hz).mp q))]
    by_cases h2 : z < cm
    · obtain ⟨k, rfl⟩ : ∃ k : Nat, z = k := ⟨z.toNat, by omega⟩
      obtain ⟨-, b1, b2⟩ := u8 k (by omega)
      refine ⟨iI (us k), ?_, ?_⟩
      · rw [if_pos ((iI_lt hz ⟨by omega, by omega⟩).mpr h2), ga_n (by omega) (by decide), b1]
      · rw [if_neg (fun q => wi.mp q (by omega)), ga_n (by omega) (by decide), b2]
    · exact ⟨iI (-101), by rw [if_neg (fun q => h2 ((iI_lt hz ⟨by omega, by omega⟩).mp q))], by rw [if_pos (wi.mpr (by omega))]⟩
theorem op_drop {w : Wd} (h : Rel w) : ∃ r w1 w2, X6_drop w = some (r, w1) ∧ X7_drop w1 = some (r, w2) ∧ Rel w2 := by
  obtain ⟨pl, cm, ln, n, us, pg, C, hR⟩ := id h
  obtain ⟨c1, c2, c3, c4⟩ := hR.2.2.2.1
  unfold X6_drop X7_drop
  by_cases h0 : n = 0
  · subst h0
    refine ⟨iI (-103), w, w, ?_, ?_, h⟩
    · rw [c2, if_neg (by decide)]
    · rw [c3, if_pos (by decide)]
  · refine ⟨iI ((n : Int) - 1), wr w 0 0 7 (iI ((n : Int) - 1)), wr (wr w 0 0 7 (iI ((n : Int) - 1))) 12 0 0 (iI ((n : Int) - 1)), ?_, ?_, pl, cm, ln, n - 1, us, pg, C, ?_⟩
    · rw [c2, if_pos ((iI_0lt ⟨by omega, by omega⟩).mpr (by omega)), iI_sub]
      simp only [bnd_e, rd_wr]
      simp
    · simp only [rd_wr]
      simp [c3]
      rw [if_neg (fun q => by have := (iI_eq0 ⟨by omega, by omega⟩).mp q; omega), iI_sub]
      simp only [bnd_e, rd_wr]
      simp
    · obtain ⟨h1, h2, h3, h4, h5⟩ := hR
      have e : ((n - 1 : Nat) : Int) = (n : Int) - 1 := by omega
      generalize hw : wr (wr w 0 0 7 (iI ((n : Int) - 1))) 12 0 0 (iI ((n : Int) - 1)) = w2
      have f : ∀ g o j, ¬ (g = 0 ∧ o = 0 ∧ j = 7) → ¬ (g = 12 ∧ o = 0 ∧ j = 0) → rd w2 g o j = rd w g o j := by
        intro g o j a b
        rw [← hw, rd_wr, if_neg b, rd_wr, if_neg a]
      refine ⟨?_, ?_, ?_, ⟨by omega, ?_, ?_, fun c hc => ?_⟩, fun c hc => ?_⟩
      · unfold PageR at h1 ⊢
        simp only [f 0 0 1 (by decide) (by decide), f 12 0 10 (by decide) (by decide), f 0 1 _ (by simp) (by simp), f 12 6 _ (by simp) (by simp)]
        exact h1
      · unfold UnitR at h2 ⊢
        simp only [f 0 0 3 (by decide) (by decide), f 12 0 8 (by decide) (by decide), f 0 0 4 (by decide) (by decide), f 12 0 7 (by decide) (by decide), f 0 2 _ (by simp) (by simp), f 12 5 _ (by simp) (by simp)]
        exact h2
      · unfold EverR at h3 ⊢
        simp only [f 0 0 8 (by decide) (by decide), f 12 0 5 (by decide) (by decide), f 0 0 9 (by decide) (by decide), f 12 0 6 (by decide) (by decide)]
        exact h3
      · rw [← hw, e]; simp [rd_wr]
      · rw [← hw, e]; simp [rd_wr]
      · obtain ⟨b1, b2, b3⟩ := c4 c (by omega)
        exact ⟨b1, b2.fr (fun o j ho => f _ o j (by omega) (by omega)), b3.fr (fun o j h1 h2 => f 12 o j (by omega) (by omega))⟩
      · exact (h5 c (by omega)).fr (fun o j => f _ o j (by omega) (by omega))

/-! A text becomes a code: the reference's numbers. -/
def Cn (pg : Nat → Nat) (kd : Nat) : Cd := (kd, (if dgs kd = 1 then pg 1 - 48 else 0), (fun k => if k < mks kd then markN (pg (1 + dgs kd + k)) else 0), (fun k => pg (1 + dgs kd + mks kd + k) - 48))
def Whole (pg : Nat → Nat) (kd : Nat) : Prop := kindc (pg 0) = some kd ∧ (∀ j, 0 < j → j < lets kd → fitB kd j (pg j) = true) ∧ ∀ j, j < lets kd → pg j < 127
theorem ffL_le (kd : Nat) (pg : Nat → Nat) : ∀ d j, ffL kd pg d j ≤ j + d := by
  intro d
  induction d with
  | zero => intro j; exact Nat.le_refl _
  | succ d ih =>
    intro j
    unfold ffL
    split
    · have := ih (j + 1); omega
    · omega
theorem ffL_all (kd : Nat) (pg : Nat → Nat) : ∀ d j, ffL kd pg d j = j + d ↔ ∀ i, j ≤ i → i < j + d → fitB kd i (pg i) = true := by
  intro d
  induction d with
  | zero => intro j; exact ⟨fun _ i h1 h2 => by omega, fun _ => rfl⟩
  | succ d ih =>
    intro j
    unfold ffL
    by_cases h : fitB kd j (pg j) = true
    · rw [if_pos h, show j + (d + 1) = j + 1 + d by omega, ih (j + 1)]
      constructor
      · intro h2 i h3 h4
        by_cases e : i = j
        · subst e; exact h
        · exact h2 i (by omega) (by omega)
      · intro h2 i h3 h4; exact h2 i (by omega) (by omega)
    · rw [if_neg h]
      constructor
      · intro h2; omega
      · intro h2; exact absurd (h2 j (by omega) (by omega)) h
theorem fit_end {kd j ch : Nat} (h : lets kd ≤ j) : fitB kd j ch = false := by
  have hle : lets kd = 1 + dgs kd + mks kd + 4 := rfl
  unfold fitB
  rw [if_neg (by omega), if_neg (by omega), decide_eq_false (by omega)]
theorem okMark_iff {kd ch : Nat} : (okMark kd ch = true) ↔ (ch = 97 ∨ ch = 98 ∨ ch = 33 ∨ (kd = 2 ∧ (ch = 43 ∨ (99 ≤ ch ∧ ch ≤ 102)))) := by unfold okMark; exact decide_eq_true_iff
section WHOLE
variable {pg : Nat → Nat} {kd : Nat}
theorem Whole.digit (h : Whole pg kd) (hd : dgs kd = 1) : 48 ≤ pg 1 ∧ pg 1 ≤ 55 ∧ (kd = 1 → 49 ≤ pg 1) := by
  have hl := lets_le kd
  have := h.2.1 1 (by omega) (by omega)
  unfold fitB at this
  rw [if_pos (by omega)] at this
  have := decide_eq_true_iff.mp this
  by_cases k : kd = 1
  · rw [if_pos k] at this; omega
  · rw [if_neg k] at this; omega
theorem Whole.mark (h : Whole pg kd) {k : Nat} (hk : k < mks kd) : okMark kd (pg (1 + dgs kd + k)) = true := by
  have hle : lets kd = 1 + dgs kd + mks kd + 4 := rfl
  have := h.2.1 (1 + dgs kd + k) (by omega) (by omega)
  unfold fitB at this
  rw [if_neg (by omega), if_pos (by omega)] at this
  exact this
theorem Whole.pts (h : Whole pg kd) {k : Nat} (hk : k < 4) : 48 ≤ pg (1 + dgs kd + mks kd + k) ∧ pg (1 + dgs kd + mks kd + k) ≤ 57 := by
  have hle : lets kd = 1 + dgs kd + mks kd + 4 := rfl
  have := h.2.1 (1 + dgs kd + mks kd + k) (by omega) (by omega)
  unfold fitB at this
  rw [if_neg (by omega), if_neg (by omega)] at this
  have := decide_eq_true_iff.mp this
  omega
theorem markN_ok {kd ch : Nat} (h : okMark kd ch = true) : markN ch < 8 ∧ (kd ≠ 2 → markN ch < 3) ∧ mletr (markN ch) = ch := by
  have := okMark_iff.mp h
  rcases (show ch = 97 ∨ ch = 98 ∨ ch = 33 ∨ (kd = 2 ∧ (ch = 43 ∨ ch = 99 ∨ ch = 100 ∨ ch = 101 ∨ ch = 102)) by omega) with rfl | rfl | rfl | ⟨rfl, rfl | rfl | rfl | rfl | rfl⟩
  all_goals first | exact ⟨by decide, fun _ => by decide, by decide⟩ | exact ⟨by decide, fun h => absurd rfl h, by decide⟩
theorem Cn_ok (h : Whole pg kd) : cok (Cn pg kd) := by
  have hk := (kindc_lt h.1).1
  refine ⟨hk, ?_, fun i hi => ?_, fun i hi => ?_⟩
  · show (if dgs kd = 1 then pg 1 - 48 else 0) < 8
    split
    · rename_i hd; have := h.digit hd; omega
    · omega
  · show (if i < mks kd then markN (pg (1 + dgs kd + i)) else 0) < 8 ∧ (kd ≠ 2 → (if i < mks kd then markN (pg (1 + dgs kd + i)) else 0) < 3)
    split
    · rename_i hm; have := markN_ok (h.mark hm); exact ⟨this.1, this.2.1⟩
    · exact ⟨by decide, fun _ => by decide⟩
  · show pg (1 + dgs kd + mks kd + i) - 48 < 10
    have := h.pts hi; omega
theorem Cn_ink (h : Whole pg kd) {j : Nat} (hj : j < lets kd) : inkc (Cn pg kd) j = pg j := by
  have hle : lets kd = 1 + dgs kd + mks kd + 4 := rfl
  show (if j = 0 then letr kd else if j < 1 + dgs kd then 48 + (if dgs kd = 1 then pg 1 - 48 else 0) else if j < 1 + dgs kd + mks kd then mletr (if j - 1 - dgs kd < mks kd then markN (pg (1 + dgs kd + (j - 1 - dgs kd))) else 0) else 48 + (pg (1 + dgs kd + mks kd + (j - 1 - dgs kd - mks kd)) - 48)) = pg j
  by_cases h0 : j = 0
  · rw [if_pos h0, h0]; exact (kindc_lt h.1).2
  · rw [if_neg h0]
    have hd := (lets_le kd).2.2.1
    by_cases h1 : j < 1 + dgs kd
    · have hd1 : dgs kd = 1 := by omega
      have := h.digit hd1
      rw [if_pos h1, if_pos hd1, show j = 1 by omega]; omega
    · rw [if_neg h1]
      by_cases h2 : j < 1 + dgs kd + mks kd
      · rw [if_pos h2, if_pos (by omega), show 1 + dgs kd + (j - 1 - dgs kd) = j by omega]
        have := h.mark (k := j - 1 - dgs kd) (by omega)
        rw [show 1 + dgs kd + (j - 1 - dgs kd) = j by omega] at this
        exact (markN_ok this).2.2
      · rw [if_neg h2, show 1 + dgs kd + mks kd + (j - 1 - dgs kd - mks kd) = j by omega]
        have := h.pts (k := j - 1 - dgs kd - mks kd) (by omega)
        rw [show 1 + dgs kd + mks kd + (j - 1 - dgs kd - mks kd) = j by omega] at this
        omega
end WHOLE
def SLay (c : Nat) : Nat → Nat → Nat → Prop := fun g o j => g = 12 ∧ ((o = 1 ∧ j = c) ∨ (o = 2 ∧ j = c) ∨ (o = 3 ∧ 16 * c ≤ j ∧ j < 16 * c + 16) ∨ (o = 4 ∧ 4 * c ≤ j ∧ j < 4 * c + 4))
theorem m_layMarks {w : Wd} {pg : Nat → Nat} {kd c : Nat} (K : Int32 → Int32 → Wd → Option Wd) (hW : Whole pg kd) (hc : c < 4) (h12 : rd w 12 0 12 = iI (kd : Nat)) (hg : ∀ j, j < lets kd → rd w 12 6 j = iI (pg j : Nat)) :
    ∀ d k fuel w1, k + d = 16 → d < fuel → Fr (SLay c) w w1 → (∀ i, i < k → rd w1 12 3 (16 * c + i) = iI ((Cn pg kd).2.2.1 i : Nat)) → ∃ w2, X7_layCode_L46 fuel K (iI (c : Nat)) (iI ((1 + dgs kd : Nat) : Int)) (iI (k : Nat)) w1 = K (iI (c : Nat)) (iI ((1 + dgs kd : Nat) : Int)) w2 ∧ Fr (SLay c) w w2 ∧ (∀ i, i < 16 → rd w2 12 3 (16 * c + i) = iI ((Cn pg kd).2.2.1 i : Nat)) ∧ (∀ o j, o ≠ 3 → rd w2 12 o j = rd w1 12 o j) := by
  have hk := (kindc_lt hW.1).1
  have hle : lets kd = 1 + dgs kd + mks kd + 4 := rfl
  have hl := lets_le kd
  intro d
  induction d with
  | zero =>
    intro k fuel w1 hd hf h1 h2
    obtain ⟨f, rfl⟩ : ∃ f, fuel = f + 1 := ⟨fuel - 1, by omega⟩
    rw [X7_layCode_L46, if_pos (yL (by omega) (by omega) (by omega))]
    exact ⟨w1, rfl, h1, fun i hi => h2 i (by omega), fun _ _ _ => rfl⟩
  | succ d ih =>
    intro k fuel w1 hd hf h1 h2
    obtain ⟨f, rfl⟩ : ∃ f, fuel = f + 1 := ⟨fuel - 1, by omega⟩
    rw [X7_layCode_L46, if_neg (nL (by omega) (by omega) (by omega)), h1.1 12 0 12 (by unfold SLay; omega), h12, m_marksOf hk]
    simp only [bnd_e, iI_mul, iI_add]
    have step : ∀ v, v = iI ((Cn pg kd).2.2.1 k : Nat) → ∃ w2, X7_layCode_L46 f K (iI (c : Nat)) (iI ((1 + dgs kd : Nat) : Int)) (iI ((k : Int) + 1)) (wr w1 12 3 (16 * c + k) v) = K (iI (c : Nat)) (iI ((1 + dgs kd : Nat) : Int)) w2 ∧ Fr (SLay c) w w2 ∧ (∀ i, i < 16 → rd w2 12 3 (16 * c + i) = iI ((Cn pg kd).2.2.1 i : Nat)) ∧ (∀ o j, o ≠ 3 → rd w2 12 o j = rd w1 12 o j) := by
      intro v hv
      obtain ⟨w2, e1, e2, e3, e4⟩ := ih (k + 1) f (wr w1 12 3 (16 * c + k) v) (by omega) (by omega) (h1.wr _ (by unfold SLay; omega)) (fun i hi => by
        by_cases e : i = k
        · subst e; rw [rd_eq, hv]
        · rw [rd_j (by omega)]; exact h2 i (by omega))
      exact ⟨w2, e1, e2, e3, fun o j ho => by rw [e4 o j ho, rd_o ho]⟩
    by_cases hm : k < mks kd
    · have om := hW.mark hm
      rw [if_neg (nL (by omega) (by omega) (by omega)), ga_e (k := 1 + dgs kd + k) (by omega) (by omega) (by decide), h1.1 12 6 _ (by unfold SLay; omega), hg _ (by omega), m_markBy hk (hW.2.2 _ (by omega)), if_pos om, pa_e (k := 16 * c + k) (by omega) (by omega) (by decide)]
      exact step _ (by show _ = iI (((if k < mks kd then markN (pg (1 + dgs kd + k)) else 0 : Nat)) : Int); rw [if_pos hm])
    · rw [if_pos (yL (by omega) (by omega) (by omega)), pa_e (k := 16 * c + k) (by omega) (by omega) (by decide)]
      exact step _ (by show _ = iI (((if k < mks kd then markN (pg (1 + dgs kd + k)) else 0 : Nat)) : Int); rw [if_neg hm]; rfl)
theorem m_layPts {w : Wd} {pg : Nat → Nat} {kd c : Nat} (hW : Whole pg kd) (hc : c < 4) (h12 : rd w 12 0 12 = iI (kd : Nat)) (hg : ∀ j, j < lets kd → rd w 12 6 j = iI (pg j : Nat)) :
    ∀ d k fuel w1, k + d = 4 → d < fuel → Fr (SLay c) w w1 → (∀ i, i < k → rd w1 12 4 (4 * c + i) = iI ((Cn pg kd).2.2.2 i : Nat)) → ∃ w2, X7_layCode_L101 fuel (iI (c : Nat)) (iI ((1 + dgs kd : Nat) : Int)) (iI (k : Nat)) w1 = some w2 ∧ Fr (SLay c) w w2 ∧ (∀ i, i < 4 → rd w2 12 4 (4 * c + i) = iI ((Cn pg kd).2.2.2 i : Nat)) ∧ (∀ o j, o ≠ 4 → rd w2 12 o j = rd w1 12 o j) := by
  have hk := (kindc_lt hW.1).1
  have hle : lets kd = 1 + dgs kd + mks kd + 4 := rfl
  have hl := lets_le kd
  intro d
  induction d with
  | zero =>
    intro k fuel w1 hd hf h1 h2
    obtain ⟨f, rfl⟩ : ∃ f, fuel = f + 1 := ⟨fuel - 1, by omega⟩
    rw [X7_layCode_L101, if_pos (yL (by omega) (by omega) (by omega))]
    exact ⟨w1, rfl, h1, fun i hi => h2 i (by omega), fun _ _ _ => rfl⟩
  | succ d ih =>
    intro k fuel w1 hd hf h1 h2
    obtain ⟨f, rfl⟩ : ∃ f, fuel = f + 1 := ⟨fuel - 1, by omega⟩
    have hp := hW.pts (k := k) (by omega)
    rw [X7_layCode_L101, if_neg (nL (by omega) (by omega) (by omega)), h1.1 12 0 12 (by unfold SLay; omega), h12, m_marksOf hk, iI_add, iI_add, ga_e (k := 1 + dgs kd + mks kd + k) (by omega) (by omega) (by decide), h1.1 12 6 _ (by unfold SLay; omega), hg _ (by omega), iI_sub, iI_mul, iI_add, pa_e (k := 4 * c + k) (by omega) (by omega) (by decide), bnd_e, iI_add]
    obtain ⟨w2, e1, e2, e3, e4⟩ := ih (k + 1) f (wr w1 12 4 (4 * c + k) (iI ((pg (1 + dgs kd + mks kd + k) : Int) - 48))) (by omega) (by omega) (h1.wr _ (by unfold SLay; omega)) (fun i hi => by
        by_cases e : i = k
        · subst e; rw [rd_eq]; show _ = iI ((pg (1 + dgs kd + mks kd + i) - 48 : Nat) : Int); congr 1; omega
        · rw [rd_j (by omega)]; exact h2 i (by omega))
    exact ⟨w2, e1, e2, e3, fun o j ho => by rw [e4 o j ho, rd_o ho]⟩
theorem m_layCode {w : Wd} {pg : Nat → Nat} {kd c : Nat} (hW : Whole pg kd) (hc : c < 4) (h12 : rd w 12 0 12 = iI (kd : Nat)) (hg : ∀ j, j < lets kd → rd w 12 6 j = iI (pg j : Nat)) : ∃ w2, X7_layCode w (iI (c : Nat)) = some w2 ∧ Fr (SLay c) w w2 ∧ CodeM w2 c (Cn pg kd) := by
  have hk := (kindc_lt hW.1).1
  have hle : lets kd = 1 + dgs kd + mks kd + 4 := rfl
  have hl := lets_le kd
  unfold X7_layCode
  rw [h12, m_digitsOf hk, iI_add, bnd_e, pa_n hc (by decide), show ((1 : Int) + (dgs kd : Nat)) = ((1 + dgs kd : Nat) : Int) by omega]
  have rest : ∀ w3, Fr (SLay c) w w3 → rd w3 12 1 c = iI (kd : Nat) → rd w3 12 2 c = iI ((Cn pg kd).2.1 : Nat) → ∃ w2, X7_layCode_L46 1000 X7_layCode_L99 (iI (c : Nat)) (iI ((1 + dgs kd : Nat) : Int)) (iI 0) w3 = some w2 ∧ Fr (SLay c) w w2 ∧ CodeM w2 c (Cn pg kd) := by
    intro w3 f3 a1 a2
    obtain ⟨w4, e1, e2, e3, e4⟩ := m_layMarks (w := w) X7_layCode_L99 hW hc h12 hg 16 0 1000 w3 (by omega) (by omega) f3 (fun i hi => by omega)
    obtain ⟨w5, g1, g2, g3, g4⟩ := m_layPts (w := w) hW hc h12 hg 4 0 1000 w4 (by omega) (by omega) e2 (fun i hi => by omega)
    refine ⟨w5, ?_, g2, ?_, ?_, fun i hi => ?_, g3⟩
    · rw [show (iI 0 : Int32) = iI ((0 : Nat) : Int) from rfl, e1]
      exact g1
    · rw [g4 1 c (by decide), e4 1 c (by decide)]; exact a1
    · rw [g4 2 c (by decide), e4 2 c (by decide)]; exact a2
    · rw [g4 3 _ (by decide)]; exact e3 i hi
  have f2 : Fr (SLay c) w (wr w 12 1 c (iI (kd : Nat))) := (Fr.rf _ w).wr _ (by unfold SLay; omega)
  by_cases hd : dgs kd = 1
  · have hp := hW.digit hd
    rw [if_pos (yE (by omega)), ga_e (k := 1) (by omega) (by omega) (by decide), rd_o (by decide), hg 1 (by omega), iI_sub, pa_n hc (by decide)]
    refine rest _ (f2.wr _ (by unfold SLay; omega)) ?_ ?_
    · rw [rd_o (by decide), rd_eq]
    · rw [rd_eq]
      show _ = iI ((if dgs kd = 1 then pg 1 - 48 else 0 : Nat) : Int)
      rw [if_pos hd]; congr 1; omega
  · rw [if_neg (nE (by omega) (by omega) (by omega)), pa_n hc (by decide)]
    refine rest _ (f2.wr _ (by unfold SLay; omega)) ?_ ?_
    · rw [rd_o (by decide), rd_eq]
    · rw [rd_eq]
      show _ = iI ((if dgs kd = 1 then pg 1 - 48 else 0 : Nat) : Int)
      rw [if_neg hd]; rfl

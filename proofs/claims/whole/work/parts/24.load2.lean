/-! load, whole. -/
section LOAD2
variable {g kd : Nat} {pg : Nat → Nat}
/-- what is laid of the tables when modes below m are done, and of mode m the units below u -/
def Laid (w : Wd) (g : Nat) (C : Cd) (m u : Nat) : Prop := ∀ m' u', m' < 5 → u' < 8 → (m' < m ∨ (m' = m ∧ u' < u)) → rd w g 2 (m' * 8 + u') = mvE (trc C m' u') ∧ ∀ l, l < 3 → rd w g 3 ((3 * m' + l) * 8 + u') = oE (nx C (3 * m' + l) u') ∧ rd w g 4 ((3 * m' + l) * 8 + u') = iI (gn C (3 * m' + l) u' : Nat)
theorem x_loadCell {w : Wd} (K : Int32 → Int32 → Wd → Option Wd) (h : LX w g pg kd) (hW : Whole pg kd) {m u : Nat} (hm : m < 5) (hu : u < 8) (hL : Laid w g (Cn pg kd) m u) :
    ∃ w', X0_load_L113 K g (iI (m : Nat)) (iI (u : Nat)) (mvE (trc (Cn pg kd) m u)) w = K (iI (m : Nat)) (iI ((u + 1 : Nat) : Int)) w' ∧ Fr (SG g) w w' ∧ LX w' g pg kd ∧ Laid w' g (Cn pg kd) m (u + 1) := by
  unfold X0_load_L113
  rw [iI_mul, iI_add, pa_e (k := m * 8 + u) (by omega) (by omega) (by decide)]
  generalize hw1 : wr w g 2 (m * 8 + u) (mvE (trc (Cn pg kd) m u)) = w1
  have f1 : Fr (SG g) w w1 := by rw [← hw1]; exact (Fr.rf _ w).wr _ rfl
  have l1 : LX w1 g pg kd := h.fr (fun o j ho => by rw [← hw1, rd_o (by omega)])
  have hq : qok (trc (Cn pg kd) m u) := fun m' s e => by
    obtain ⟨-, a, b⟩ := trc_ok (Cn_ok hW) hu e
    have := ms_le (Cn pg kd)
    exact ⟨by omega, b⟩
  obtain ⟨w2, e1, e2, e3, e4⟩ := x_layOut l1 hW hq hm hu
  rw [e1, ob_s, bnd_e, iI_add]
  refine ⟨w2, rfl, f1.tr e2, l1.fr (fun o j ho => e4 o j (by omega)), fun m' u' h1 h2 h3 => ?_⟩
  by_cases hmu : m' = m ∧ u' = u
  · obtain ⟨rfl, rfl⟩ := hmu
    refine ⟨by rw [e4 2 _ (by omega), ← hw1, rd_eq], fun l hl => ?_⟩
    rw [nx_q _ hl, gn_q _ hl]
    exact e3 l hl
  · obtain ⟨a1, a2⟩ := hL m' u' h1 h2 (by omega)
    refine ⟨by rw [e4 2 _ (by omega), ← hw1, rd_j (by omega)]; exact a1, fun l hl => ?_⟩
    rw [e4 3 _ (by omega), e4 4 _ (by omega), ← hw1, rd_o (by decide), rd_o (by decide)]
    exact a2 l hl
theorem x_loadUnits {w : Wd} (K : Int32 → Wd → Option Wd) (hW : Whole pg kd) {m : Nat} (hm : m < 5) :
    ∀ d u fuel w1, u + d = 8 → d < fuel → Fr (SG g) w w1 → LX w1 g pg kd → Laid w1 g (Cn pg kd) m u → ∃ w', X0_load_L87 fuel K g (iI (m : Nat)) (iI (u : Nat)) w1 = K (iI (m : Nat)) w' ∧ Fr (SG g) w w' ∧ LX w' g pg kd ∧ Laid w' g (Cn pg kd) m 8 := by
  intro d
  induction d with
  | zero =>
    intro u fuel w1 hd hf h1 h2 h3
    obtain ⟨f, rfl⟩ : ∃ f, fuel = f + 1 := ⟨fuel - 1, by omega⟩
    obtain rfl : u = 8 := by omega
    rw [X0_load_L87, if_pos (by decide)]
    exact ⟨w1, rfl, h1, h2, h3⟩
  | succ d ih =>
    intro u fuel w1 hd hf h1 h2 h3
    obtain ⟨f, rfl⟩ : ∃ f, fuel = f + 1 := ⟨fuel - 1, by omega⟩
    have hms := ms_le (Cn pg kd)
    obtain ⟨w2, e1, e2, e3, e4⟩ := x_loadCell (X0_load_L87 f K g) h2 hW hm (show u < 8 by omega) h3
    rw [X0_load_L87, if_neg (nL (by omega) (by omega) (by omega)), h2.2.2.1]
    have fin := ih (u + 1) f w2 (by omega) (by omega) (h1.tr e2) e3 e4
    by_cases hmm : m < ms (Cn pg kd)
    · rw [if_neg (nL (by omega) (by omega) (by omega)), x_moveOf h2 hW hmm (by omega), ob_s]
      rw [trc_in hmm] at e1
      rw [e1]
      exact fin
    · rw [if_pos (yL (by omega) (by omega) (by omega))]
      have : trc (Cn pg kd) m u = none := by unfold trc; rw [if_neg hmm]
      rw [this] at e1
      rw [show (iI (-1) : Int32) = mvE none from rfl, e1]
      exact fin
theorem x_loadModes {w : Wd} (hW : Whole pg kd) :
    ∀ d m fuel w1, m + d = 5 → d < fuel → Fr (SG g) w w1 → LX w1 g pg kd → Laid w1 g (Cn pg kd) m 0 → ∃ w', X0_load_L79 fuel g (iI (m : Nat)) w1 = some w' ∧ Fr (SG g) w w' ∧ LX w' g pg kd ∧ Laid w' g (Cn pg kd) 5 0 := by
  intro d
  induction d with
  | zero =>
    intro m fuel w1 hd hf h1 h2 h3
    obtain ⟨f, rfl⟩ : ∃ f, fuel = f + 1 := ⟨fuel - 1, by omega⟩
    obtain rfl : m = 5 := by omega
    rw [X0_load_L79, if_pos (by decide)]
    exact ⟨w1, rfl, h1, h2, h3⟩
  | succ d ih =>
    intro m fuel w1 hd hf h1 h2 h3
    obtain ⟨f, rfl⟩ : ∃ f, fuel = f + 1 := ⟨fuel - 1, by omega⟩
    obtain ⟨w2, e1, e2, e3, e4⟩ := x_loadUnits (w := w) (X0_load_L144 (X0_load_L79 f g) g) hW (show m < 5 by omega) 8 0 1000 w1 (by omega) (by omega) h1 h2 h3
    rw [X0_load_L79, if_neg (nL (by omega) (by omega) (by omega)), show (iI 0 : Int32) = iI ((0 : Nat) : Int) from rfl, e1]
    unfold X0_load_L144
    rw [bnd_e, iI_add]
    exact ih (m + 1) f w2 (by omega) (by omega) e2 e3 (fun m' u' a b c => e4 m' u' a b (by omega))
theorem x_loadText {w : Wd} (K : Wd → Option Wd) {N : Nat} (hN : N ≤ 22) (h1 : rd w g 0 1 = iI (N : Nat)) (hg0 : g ≠ 0) (hg : ∀ j, j < N → rd w 0 1 j = iI (pg j : Nat)) :
    ∀ d k fuel w1, k + d = N → d < fuel → Fr (SG g) w w1 → (∀ j, rd w1 g 0 j = rd w g 0 j) → (∀ j, j < k → rd w1 g 1 j = iI (pg j : Nat)) → ∃ w', X0_load_L17 fuel K g (iI (k : Nat)) w1 = K w' ∧ Fr (SG g) w w' ∧ (∀ j, rd w' g 0 j = rd w g 0 j) ∧ (∀ j, j < N → rd w' g 1 j = iI (pg j : Nat)) := by
  intro d
  induction d with
  | zero =>
    intro k fuel w1 hd hf f1 h2 h3
    obtain ⟨f, rfl⟩ : ∃ f, fuel = f + 1 := ⟨fuel - 1, by omega⟩
    rw [X0_load_L17, h2, h1, if_pos (yL (by omega) (by omega) (by omega))]
    exact ⟨w1, rfl, f1, h2, fun j hj => h3 j (by omega)⟩
  | succ d ih =>
    intro k fuel w1 hd hf f1 h2 h3
    obtain ⟨f, rfl⟩ : ∃ f, fuel = f + 1 := ⟨fuel - 1, by omega⟩
    rw [X0_load_L17, h2, h1, if_neg (nL (by omega) (by omega) (by omega)), ga_n (by omega) (by decide), f1.1 0 1 k (by unfold SG; omega), hg k (by omega), pa_n (by omega) (by decide), bnd_e, iI_add]
    exact ih (k + 1) f _ (by omega) (by omega) (f1.wr _ rfl) (fun j => by rw [rd_o (by decide)]; exact h2 j) (fun j hj => by
      by_cases e : j = k
      · subst e; rw [rd_eq]
      · rw [rd_j e]; exact h3 j (by omega))
theorem x_load {w : Wd} (hW : Whole pg kd) (hg0 : g ≠ 0) (hg : ∀ j, j < lets kd → rd w 0 1 j = iI (pg j : Nat)) : ∃ w', X0_load w g (iI (lets kd : Nat)) = some w' ∧ Fr (SG g) w w' ∧ CodeX w' g (Cn pg kd) := by
  have hk := (kindc_lt hW.1).1
  have hl := lets_le kd
  unfold X0_load
  rw [imin_iI (by omega) (by decide), imin_iI (by omega) (by decide), show min (min (lets kd : Int) 40) 22 = ((lets kd : Nat) : Int) by omega, bnd_e]
  generalize hw1 : wr w g 0 1 (iI (lets kd : Nat)) = w1
  have f1 : Fr (SG g) w w1 := by rw [← hw1]; exact (Fr.rf _ w).wr _ rfl
  obtain ⟨w2, e1, e2, e3, e4⟩ := x_loadText (w := w1) (pg := pg) (X0_load_L40 g) (show lets kd ≤ 22 by omega) (by rw [← hw1, rd_eq]) hg0 (fun j hj => by rw [f1.1 0 1 j (by unfold SG; omega)]; exact hg j hj) (lets kd) 0 1000 w1 (by omega) (by omega) (Fr.rf _ w1) (fun _ => rfl) (fun j hj => by omega)
  rw [show (iI 0 : Int32) = iI ((0 : Nat) : Int) from rfl, e1]
  unfold X0_load_L40
  have hko : X2_kindOf (iI (pg 0 : Nat)) = iI (kd : Nat) := by rw [x_kindOf (hW.2.2 0 (by omega)), hW.1]; rfl
  have hmo : X0_modesOf (iI (kd : Nat)) = iI (ms (Cn pg kd) : Nat) := by
    have : ms (Cn pg kd) = if kd = 2 then 5 else if kd = 0 then 1 else 2 := rfl
    rw [this]
    rcases (show kd = 0 ∨ kd = 1 ∨ kd = 2 ∨ kd = 3 by omega) with h | h | h | h <;> subst h <;> decide
  rw [ga_e (k := 0) (by omega) (by omega) (by decide), e4 0 (by omega), hko, bnd_e, ga_e (k := 1) (by omega) (by omega) (by decide), rd_o (by decide), e4 1 (by omega), iI_sub, bnd_e, bnd_e, rd_j (by decide), rd_eq, hmo]
  generalize hw5 : wr (wr (wr w2 g 0 2 (iI (kd : Nat))) g 0 4 (iI ((pg 1 : Int) - 48))) g 0 3 (iI (ms (Cn pg kd) : Nat)) = w5
  have f5 : Fr (SG g) w w5 := by rw [← hw5]; exact (((f1.tr e2).wr _ rfl).wr _ rfl).wr _ rfl
  have l5 : LX w5 g pg kd := by
    rw [← hw5]
    refine ⟨?_, ?_, ?_, ?_, fun j hj => ?_⟩
    · rw [rd_j (by decide), rd_j (by decide), rd_j (by decide), e3, ← hw1, rd_eq]
    · rw [rd_j (by decide), rd_j (by decide), rd_eq]
    · rw [rd_eq]
    · rw [rd_j (by decide), rd_eq]
    · rw [rd_o (by decide), rd_o (by decide), rd_o (by decide)]; exact e4 j hj
  obtain ⟨w6, g1, g2, g3, g4⟩ := x_loadModes (w := w) hW 5 0 1000 w5 (by omega) (by omega) f5 l5 (fun m' u' a b c => by omega)
  refine ⟨w6, g1, g2, g3.1, g3.2.1, g3.2.2.1, fun j hj => ?_, fun m u hm hu => (g4 m u hm hu (by omega)).1, fun p u hp hu => ?_, fun p u hp hu => ?_⟩
  · rw [Cn_ink hW hj]; exact g3.2.2.2.2 j hj
  · have := ((g4 (p / 3) u (by omega) hu (by omega)).2 (p % 3) (by omega)).1
    rw [show 3 * (p / 3) + p % 3 = p by omega] at this
    exact this
  · have := ((g4 (p / 3) u (by omega) hu (by omega)).2 (p % 3) (by omega)).2
    rw [show 3 * (p / 3) + p % 3 = p by omega] at this
    exact this
end LOAD2

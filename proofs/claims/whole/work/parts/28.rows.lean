/-! How many rows are valid. -/
def stA (C : Cd) (f : Nat → Nat) (m u : Nat) (acc : Nat → Nat) : Nat → Nat := match trc C m u with
  | none => acc
  | some q => fun i => if i = q.1 then acc i + f m else acc i
def accU (C : Cd) (f : Nat → Nat) (m : Nat) (acc : Nat → Nat) : Nat → (Nat → Nat)
  | 0 => acc
  | k + 1 => stA C f m k (accU C f m acc k)
def accM (C : Cd) (f : Nat → Nat) : Nat → (Nat → Nat)
  | 0 => fun _ => 0
  | k + 1 => accU C f k (accM C f k) 8
def wy (C : Cd) : Nat → (Nat → Nat)
  | 0 => fun i => if i = 0 then 1 else 0
  | k + 1 => accM C (wy C k) 5
def tot (f : Nat → Nat) : Nat := f 0 + f 1 + f 2 + f 3 + f 4
theorem tot_st (C : Cd) (f : Nat → Nat) (m u : Nat) (acc : Nat → Nat) : tot (stA C f m u acc) ≤ tot acc + f m := by
  unfold stA tot
  cases trc C m u with
  | none => dsimp only; omega
  | some q =>
    dsimp only
    rcases (show q.1 = 0 ∨ q.1 = 1 ∨ q.1 = 2 ∨ q.1 = 3 ∨ q.1 = 4 ∨ 5 ≤ q.1 by omega) with h | h | h | h | h | h
    · rw [h]; simp; omega
    · rw [h]; simp; omega
    · rw [h]; simp; omega
    · rw [h]; simp; omega
    · rw [h]; simp; omega
    · rw [if_neg (by omega), if_neg (by omega), if_neg (by omega), if_neg (by omega), if_neg (by omega)]; omega
theorem tot_U (C : Cd) (f : Nat → Nat) (m : Nat) (acc : Nat → Nat) : ∀ k, tot (accU C f m acc k) ≤ tot acc + k * f m := by
  intro k
  induction k with
  | zero => show tot acc ≤ _; omega
  | succ k ih =>
    have := tot_st C f m k (accU C f m acc k)
    show tot (stA C f m k (accU C f m acc k)) ≤ _
    rw [Nat.succ_mul]; omega
theorem tot_M (C : Cd) (f : Nat → Nat) : tot (accM C f 5) ≤ 8 * tot f := by
  have h0 := tot_U C f 0 (accM C f 0) 8
  have h1 := tot_U C f 1 (accM C f 1) 8
  have h2 := tot_U C f 2 (accM C f 2) 8
  have h3 := tot_U C f 3 (accM C f 3) 8
  have h4 := tot_U C f 4 (accM C f 4) 8
  have e0 : tot (accM C f 0) = 0 := rfl
  have e1 : accM C f 1 = accU C f 0 (accM C f 0) 8 := rfl
  have e2 : accM C f 2 = accU C f 1 (accM C f 1) 8 := rfl
  have e3 : accM C f 3 = accU C f 2 (accM C f 2) 8 := rfl
  have e4 : accM C f 4 = accU C f 3 (accM C f 3) 8 := rfl
  have e5 : accM C f 5 = accU C f 4 (accM C f 4) 8 := rfl
  rw [← e1] at h0; rw [← e2] at h1; rw [← e3] at h2; rw [← e4] at h3; rw [← e5] at h4
  unfold tot at *
  omega
theorem wy_tot (C : Cd) : ∀ k, tot (wy C k) ≤ 8 ^ k := by
  intro k
  induction k with
  | zero => exact Nat.le_refl 1
  | succ k ih =>
    have := tot_M C (wy C k)
    show tot (accM C (wy C k) 5) ≤ _
    rw [Nat.pow_succ]; omega
theorem wy_lt (C : Cd) {k : Nat} (hk : k ≤ 9) {i : Nat} (hi : i < 5) : wy C k i ≤ 134217728 := by
  have h1 := wy_tot C k
  have h2 : 8 ^ k ≤ 8 ^ 9 := Nat.pow_le_pow_right (by decide) hk
  have h3 : (8 : Nat) ^ 9 = 134217728 := by decide
  unfold tot at h1
  rcases (show i = 0 ∨ i = 1 ∨ i = 2 ∨ i = 3 ∨ i = 4 by omega) with rfl | rfl | rfl | rfl | rfl <;> omega
theorem accU_none {C : Cd} {f : Nat → Nat} {m : Nat} {acc : Nat → Nat} (h : ∀ u, trc C m u = none) : ∀ k, accU C f m acc k = acc := by
  intro k
  induction k with
  | zero => rfl
  | succ k ih => show stA C f m k (accU C f m acc k) = acc; rw [ih]; unfold stA; rw [h k]
theorem accM_ms (C : Cd) (f : Nat → Nat) : ∀ d, accM C f (ms C + d) = accM C f (ms C) := by
  intro d
  induction d with
  | zero => rfl
  | succ d ih =>
    show accU C f (ms C + d) (accM C f (ms C + d)) 8 = _
    rw [ih]
    exact accU_none (fun u => by unfold trc; rw [if_neg (by omega)]) 8
theorem accU_zero {C : Cd} {f : Nat → Nat} {m : Nat} {acc : Nat → Nat} (h : f m = 0) : ∀ k, accU C f m acc k = acc := by
  intro k
  induction k with
  | zero => rfl
  | succ k ih =>
    show stA C f m k (accU C f m acc k) = acc
    rw [ih]; unfold stA
    cases trc C m k with
    | none => rfl
    | some q => dsimp only; funext i; rw [h]; split <;> rfl
def SWx (g : Nat) : Nat → Nat → Nat → Prop := fun a o _ => a = g ∧ (o = 5 ∨ o = 6)
section XROWS
variable {w : Wd} {g : Nat} {C : Cd} {f : Nat → Nat}
theorem SWx_code {w' : Wd} (fr : Fr (SWx g) w w') (h : CodeX w g C) : CodeX w' g C := h.fr (fun o j ho => fr.1 _ o j (by unfold SWx; omega))
theorem x_waysU (hC : CodeX w g C) (hk : cok C) (K : Int32 → Wd → Option Wd) {m : Nat} (hm : m < 5) (acc : Nat → Nat) :
    ∀ d u fuel w1, u + d = 8 → d < fuel → Fr (SWx g) w w1 → (∀ i, i < 5 → rd w1 g 5 i = iI (f i : Nat)) → (∀ i, i < 5 → rd w1 g 6 i = iI (accU C f m acc u i : Nat)) → ∃ w', X0_lengthenWays_L20 fuel K g (iI (m : Nat)) (iI (u : Nat)) w1 = K (iI (m : Nat)) w' ∧ Fr (SWx g) w w' ∧ (∀ i, i < 5 → rd w' g 5 i = iI (f i : Nat)) ∧ (∀ i, i < 5 → rd w' g 6 i = iI (accU C f m acc 8 i : Nat)) := by
  intro d
  induction d with
  | zero =>
    intro u fuel w1 hd hf h1 h2 h3
    obtain ⟨f', rfl⟩ : ∃ f', fuel = f' + 1 := ⟨fuel - 1, by omega⟩
    obtain rfl : u = 8 := by omega
    rw [X0_lengthenWays_L20, if_pos (by decide)]
    exact ⟨w1, rfl, h1, h2, h3⟩
  | succ d ih =>
    intro u fuel w1 hd hf h1 h2 h3
    obtain ⟨f', rfl⟩ : ∃ f', fuel = f' + 1 := ⟨fuel - 1, by omega⟩
    rw [X0_lengthenWays_L20, if_neg (nL (by omega) (by omega) (by omega)), x_nextMode (SWx_code h1 hC) hk (by omega) (by omega), ob_s]
    simp only [bnd_e, iI_add]
    have eU : accU C f m acc (u + 1) = stA C f m u (accU C f m acc u) := rfl
    cases e : trc C m u with
    | none =>
      rw [show oE (Option.map (fun q => q.1) (none : Option (Nat × Nat))) = iI (-1) from rfl, if_pos (yT0 (by decide) (by decide))]
      exact ih (u + 1) f' w1 (by omega) (by omega) h1 h2 (fun i hi => by rw [eU]; unfold stA; rw [e]; exact h3 i hi)
    | some q =>
      obtain ⟨m', s⟩ := q
      obtain ⟨-, q1, q2⟩ := trc_ok hk (show u < 8 by omega) e
      have := ms_le C
      rw [show oE (Option.map (fun q => q.1) (some (m', s))) = iI (m' : Nat) from rfl, if_neg (nT0 (by omega) (by omega)), if_neg (nL (by omega) (by omega) (by omega)), ga_n (by omega) (by decide), ga_n hm (by decide), pa_n (by omega) (by decide), h2 m hm, h3 m' (by omega), iI_add]
      refine ih (u + 1) f' _ (by omega) (by omega) (h1.wr _ ⟨rfl, Or.inr rfl⟩) (fun i hi => by rw [rd_o (by decide)]; exact h2 i hi) (fun i hi => ?_)
      rw [eU]; unfold stA; rw [e]
      dsimp only
      by_cases ei : i = m'
      · subst ei; rw [rd_eq, if_pos rfl]; rfl
      · rw [rd_j ei, if_neg ei]; exact h3 i hi
theorem x_waysM (hC : CodeX w g C) (hk : cok C) (K : Wd → Option Wd) :
    ∀ d m fuel w1, m + d = ms C → d < fuel → Fr (SWx g) w w1 → (∀ i, i < 5 → rd w1 g 5 i = iI (f i : Nat)) → (∀ i, i < 5 → rd w1 g 6 i = iI (accM C f m i : Nat)) → ∃ w', X0_lengthenWays_L10 fuel K g (iI (m : Nat)) w1 = K w' ∧ Fr (SWx g) w w' ∧ (∀ i, i < 5 → rd w' g 6 i = iI (accM C f (ms C) i : Nat)) := by
  have hms := ms_le C
  intro d
  induction d with
  | zero =>
    intro m fuel w1 hd hf h1 h2 h3
    obtain ⟨f', rfl⟩ : ∃ f', fuel = f' + 1 := ⟨fuel - 1, by omega⟩
    obtain rfl : m = ms C := by omega
    rw [X0_lengthenWays_L10, (SWx_code h1 hC).2.2.1, if_pos (yL (by omega) (by omega) (by omega))]
    exact ⟨w1, rfl, h1, h3⟩
  | succ d ih =>
    intro m fuel w1 hd hf h1 h2 h3
    obtain ⟨f', rfl⟩ : ∃ f', fuel = f' + 1 := ⟨fuel - 1, by omega⟩
    obtain ⟨w2, e1, e2, e3, e4⟩ := x_waysU (w := w) (f := f) hC hk (X0_lengthenWays_L63 (X0_lengthenWays_L10 f' K g) g) (show m < 5 by omega) (accM C f m) 8 0 1000 w1 (by omega) (by omega) h1 h2 h3
    rw [X0_lengthenWays_L10, (SWx_code h1 hC).2.2.1, if_neg (nL (by omega) (by omega) (by omega)), show (iI 0 : Int32) = iI ((0 : Nat) : Int) from rfl, e1]
    unfold X0_lengthenWays_L63
    rw [bnd_e, iI_add]
    exact ih (m + 1) f' w2 (by omega) (by omega) e2 e3 e4
theorem x_ways (hC : CodeX w g C) (hk : cok C) (h5 : ∀ i, i < 5 → rd w g 5 i = iI (f i : Nat)) : ∃ w', X0_lengthenWays w g = some w' ∧ Fr (SWx g) w w' ∧ (∀ i, i < 5 → rd w' g 5 i = iI (accM C f 5 i : Nat)) := by
  have hms := ms_le C
  unfold X0_lengthenWays
  rw [bnd_e]
  have f0 : Fr (SWx g) w (wfill w g 6 5 (iI 0)) := ⟨fun a b j h => by rw [rd_fill, if_neg (fun z => h ⟨z.1, Or.inr z.2.1⟩)], rfl⟩
  obtain ⟨w2, e1, e2, e3⟩ := x_waysM (w := w) (f := f) hC hk (X0_lengthenWays_L69 g) (ms C) 0 1000 (wfill w g 6 5 (iI 0)) (by omega) (by omega) f0 (fun i hi => by rw [rd_fill, if_neg (by omega)]; exact h5 i hi) (fun i hi => by rw [rd_fill, if_pos ⟨rfl, rfl, hi⟩]; rfl)
  rw [show (iI 0 : Int32) = iI ((0 : Nat) : Int) from rfl] at *
  rw [e1]
  unfold X0_lengthenWays_L69
  rw [bnd_e]
  refine ⟨_, rfl, e2.tr ⟨fun a b j h => by rw [rd_copy, if_neg (fun z => h ⟨z.1, Or.inl z.2.1⟩)], rfl⟩, fun i hi => ?_⟩
  rw [rd_copy, if_pos ⟨rfl, rfl, hi⟩, e3 i hi]
  have := accM_ms C f (5 - ms C)
  rw [show ms C + (5 - ms C) = 5 by omega] at this
  rw [this]
theorem x_rowsL (hC : CodeX w g C) (hk : cok C) {n : Nat} (hn : n ≤ 9) : ∀ d k fuel w1, k + d = n → d < fuel → Fr (SWx g) w w1 → (∀ i, i < 5 → rd w1 g 5 i = iI (wy C k i : Nat)) → ∃ w', X0_validRows_L17 fuel g (iI (n : Nat)) (iI (k : Nat)) w1 = some (iI (wy C n 0 : Nat), w') ∧ Fr (SWx g) w w' := by
  intro d
  induction d with
  | zero =>
    intro k fuel w1 hd hf h1 h2
    obtain ⟨f', rfl⟩ : ∃ f', fuel = f' + 1 := ⟨fuel - 1, by omega⟩
    obtain rfl : k = n := by omega
    rw [X0_validRows_L17, if_pos (yL (by omega) (by omega) (by omega)), ga_e (k := 0) (by omega) (by omega) (by decide), h2 0 (by decide)]
    exact ⟨w1, rfl, h1⟩
  | succ d ih =>
    intro k fuel w1 hd hf h1 h2
    obtain ⟨f', rfl⟩ : ∃ f', fuel = f' + 1 := ⟨fuel - 1, by omega⟩
    obtain ⟨w2, e1, e2, e3⟩ := x_ways (SWx_code h1 hC) hk h2
    rw [X0_validRows_L17, if_neg (nL (by omega) (by omega) (by omega)), e1, ob_s, bnd_e, iI_add]
    exact ih (k + 1) f' w2 (by omega) (by omega) (h1.tr e2) e3
theorem x_rows (hC : CodeX w g C) (hk : cok C) {n : Nat} (hn : n ≤ 9) : ∃ w', X0_validRows w g (iI (n : Nat)) = some (iI (wy C n 0 : Nat), w') ∧ Fr (SWx g) w w' := by
  unfold X0_validRows
  rw [bnd_e, pa_e (k := 0) (by omega) (by omega) (by decide)]
  have f0 : Fr (SWx g) w (wfill w g 5 5 (iI 0)) := ⟨fun a b j h => by rw [rd_fill, if_neg (fun z => h ⟨z.1, Or.inl z.2.1⟩)], rfl⟩
  refine x_rowsL hC hk hn n 0 1000 _ (by omega) (by omega) (f0.wr _ ⟨rfl, Or.inl rfl⟩) (fun i hi => ?_)
  by_cases ei : i = 0
  · subst ei; rw [rd_eq]; rfl
  · rw [rd_j ei, rd_fill, if_pos ⟨rfl, rfl, hi⟩]
    show iI 0 = iI ((if i = 0 then 1 else 0 : Nat) : Int)
    rw [if_neg ei]; rfl
end XROWS
def SWm (g o j : Nat) : Prop := g = 12 ∧ ((o = 0 ∧ j = 13) ∨ o = 13 ∨ o = 14)
section MROWS
variable {w : Wd} {c : Nat} {C : Cd} {f : Nat → Nat}
theorem SWm_code {w' : Wd} (fr : Fr SWm w w') (h : CodeM w c C) : CodeM w' c C := h.fr (fun o j h1 h2 => fr.1 _ o j (by unfold SWm; omega))
theorem m_waysU (hC : CodeM w c C) (hk : cok C) (hc : c < 4) (hb : ∀ i, i < 5 → f i ≤ 134217728) (hz : ∀ m, ms C ≤ m → m < 5 → f m = 0) (K : Int32 → Int32 → Wd → Option Wd) {m : Nat} (hm : m < 5) (acc : Nat → Nat) :
    ∀ d u fuel w1, u + d = 8 → d < fuel → Fr SWm w w1 → (∀ i, i < 5 → rd w1 12 13 i = iI (f i : Nat)) → (∀ i, i < 5 → rd w1 12 14 i = iI (accU C f m acc u i : Nat)) → ∃ w', X7_oneMore_L29 fuel K (iI (c : Nat)) (iI (m : Nat)) (iI (u : Nat)) w1 = K (iI (c : Nat)) (iI (m : Nat)) w' ∧ Fr SWm w w' ∧ (∀ i, i < 5 → rd w' 12 13 i = iI (f i : Nat)) ∧ (∀ i, i < 5 → rd w' 12 14 i = iI (accU C f m acc 8 i : Nat)) := by
  have hms := ms_le C
  intro d
  induction d with
  | zero =>
    intro u fuel w1 hd hf h1 h2 h3
    obtain ⟨f', rfl⟩ : ∃ f', fuel = f' + 1 := ⟨fuel - 1, by omega⟩
    obtain rfl : u = 8 := by omega
    rw [X7_oneMore_L29, if_pos (by decide)]
    exact ⟨w1, rfl, h1, h2, h3⟩
  | succ d ih =>
    intro u fuel w1 hd hf h1 h2 h3
    obtain ⟨f', rfl⟩ : ∃ f', fuel = f' + 1 := ⟨fuel - 1, by omega⟩
    have hbm := hb m hm
    rw [X7_oneMore_L29, if_neg (nL (by omega) (by omega) (by omega)), ga_n hm (by decide), h2 m hm]
    by_cases h0 : f m = 0
    · rw [if_pos (yL0 (by omega) (by omega))]
      refine ⟨w1, rfl, h1, h2, fun i hi => ?_⟩
      have := h3 i hi
      rw [accU_zero h0] at this ⊢
      exact this
    · have hmm : m < ms C := by
        rcases Nat.lt_or_ge m (ms C) with q | q
        · exact q
        · exact absurd (hz m q hm) h0
      rw [if_neg (nL0 (by omega) (by omega)), m_step (SWm_code h1 hC) hk hc hmm (show u < 8 by omega), bI_s]
      simp only [bnd_e, iI_add]
      have eU : accU C f m acc (u + 1) = stA C f m u (accU C f m acc u) := rfl
      have f2 : Fr SWm w (wr w1 12 0 13 (sE (tr C m u))) := h1.wr _ ⟨rfl, Or.inl ⟨rfl, rfl⟩⟩
      have a2 : ∀ i, i < 5 → rd (wr w1 12 0 13 (sE (tr C m u))) 12 13 i = iI (f i : Nat) := fun i hi => by rw [rd_o (by decide)]; exact h2 i hi
      have a3 : ∀ i, i < 5 → rd (wr w1 12 0 13 (sE (tr C m u))) 12 14 i = iI (accU C f m acc u i : Nat) := fun i hi => by rw [rd_o (by decide)]; exact h3 i hi
      generalize hw2 : wr w1 12 0 13 (sE (tr C m u)) = w2 at *
      have et : trc C m u = tr C m u := trc_in hmm
      cases e : tr C m u with
      | none =>
        rw [show oE (Option.map (fun q => q.1) (none : Option (Nat × Nat))) = iI (-1) from rfl, if_pos rfl]
        exact ih (u + 1) f' w2 (by omega) (by omega) f2 a2 (fun i hi => by rw [eU]; unfold stA; rw [et, e]; exact a3 i hi)
      | some q =>
        obtain ⟨m', s⟩ := q
        obtain ⟨-, q1, q2⟩ := trc_ok hk (show u < 8 by omega) (et.trans e)
        rw [show oE (Option.map (fun q => q.1) (some (m', s))) = iI (m' : Nat) from rfl, if_neg (nE (by omega) (by omega) (by omega)), ga_n (by omega) (by decide), ga_n hm (by decide), pa_n (by omega) (by decide), a2 m hm, a3 m' (by omega), iI_add]
        refine ih (u + 1) f' _ (by omega) (by omega) (f2.wr _ ⟨rfl, Or.inr (Or.inr rfl)⟩) (fun i hi => by rw [rd_o (by decide)]; exact a2 i hi) (fun i hi => ?_)
        rw [eU]; unfold stA; rw [et, e]
        dsimp only
        by_cases ei : i = m'
        · subst ei; rw [rd_eq, if_pos rfl]; rfl
        · rw [rd_j ei, if_neg ei]; exact a3 i hi
theorem m_waysM (hC : CodeM w c C) (hk : cok C) (hc : c < 4) (hb : ∀ i, i < 5 → f i ≤ 134217728) (hz : ∀ m, ms C ≤ m → m < 5 → f m = 0) (K : Wd → Option Wd) :
    ∀ d m fuel w1, m + d = 5 → d < fuel → Fr SWm w w1 → (∀ i, i < 5 → rd w1 12 13 i = iI (f i : Nat)) → (∀ i, i < 5 → rd w1 12 14 i = iI (accM C f m i : Nat)) → ∃ w', X7_oneMore_L22 fuel K (iI (c : Nat)) (iI (m : Nat)) w1 = K w' ∧ Fr SWm w w' ∧ (∀ i, i < 5 → rd w' 12 14 i = iI (accM C f 5 i : Nat)) := by
  intro d
  induction d with
  | zero =>
    intro m fuel w1 hd hf h1 h2 h3
    obtain ⟨f', rfl⟩ : ∃ f', fuel = f' + 1 := ⟨fuel - 1, by omega⟩
    obtain rfl : m = 5 := by omega
    rw [X7_oneMore_L22, if_pos (by decide)]
    exact ⟨w1, rfl, h1, h3⟩
  | succ d ih =>
    intro m fuel w1 hd hf h1 h2 h3
    obtain ⟨f', rfl⟩ : ∃ f', fuel = f' + 1 := ⟨fuel - 1, by omega⟩
    obtain ⟨w2, e1, e2, e3, e4⟩ := m_waysU (w := w) (f := f) hC hk hc hb hz (X7_oneMore_L81 (X7_oneMore_L22 f' K)) (show m < 5 by omega) (accM C f m) 8 0 1000 w1 (by omega) (by omega) h1 h2 h3
    rw [X7_oneMore_L22, if_neg (nL (by omega) (by omega) (by omega)), show (iI 0 : Int32) = iI ((0 : Nat) : Int) from rfl, e1]
    unfold X7_oneMore_L81
    rw [bnd_e, iI_add]
    exact ih (m + 1) f' w2 (by omega) (by omega) e2 e3 e4
theorem m_waysZ (K : Int32 → Wd → Option Wd) (v : Int32) : ∀ d k fuel w1, k + d = 5 → d < fuel → Fr SWm w w1 → (∀ i, i < 5 → rd w1 12 13 i = iI (f i : Nat)) → (∀ i, i < k → rd w1 12 14 i = iI 0) → ∃ w', X7_oneMore_L2 fuel K v (iI (k : Nat)) w1 = K v w' ∧ Fr SWm w w' ∧ (∀ i, i < 5 → rd w' 12 13 i = iI (f i : Nat)) ∧ (∀ i, i < 5 → rd w' 12 14 i = iI 0) := by
  intro d
  induction d with
  | zero =>
    intro k fuel w1 hd hf h1 h2 h3
    obtain ⟨f', rfl⟩ : ∃ f', fuel = f' + 1 := ⟨fuel - 1, by omega⟩
    rw [X7_oneMore_L2, if_pos (yL (by omega) (by omega) (by omega))]
    exact ⟨w1, rfl, h1, h2, fun i hi => h3 i (by omega)⟩
  | succ d ih =>
    intro k fuel w1 hd hf h1 h2 h3
    obtain ⟨f', rfl⟩ : ∃ f', fuel = f' + 1 := ⟨fuel - 1, by omega⟩
    rw [X7_oneMore_L2, if_neg (nL (by omega) (by omega) (by omega)), pa_n (by omega) (by decide), bnd_e, iI_add]
    exact ih (k + 1) f' _ (by omega) (by omega) (h1.wr _ ⟨rfl, Or.inr (Or.inr rfl)⟩) (fun i hi => by rw [rd_o (by decide)]; exact h2 i hi) (fun i hi => by
      by_cases ei : i = k
      · subst ei; rw [rd_eq]
      · rw [rd_j ei]; exact h3 i (by omega))
theorem m_waysC {f2 : Nat → Nat} : ∀ d k fuel w1, k + d = 5 → d < fuel → Fr SWm w w1 → (∀ i, i < 5 → rd w1 12 14 i = iI (f2 i : Nat)) → (∀ i, i < k → rd w1 12 13 i = iI (f2 i : Nat)) → ∃ w', X7_oneMore_L89 fuel (iI (k : Nat)) w1 = some w' ∧ Fr SWm w w' ∧ (∀ i, i < 5 → rd w' 12 13 i = iI (f2 i : Nat)) := by
  intro d
  induction d with
  | zero =>
    intro k fuel w1 hd hf h1 h2 h3
    obtain ⟨f', rfl⟩ : ∃ f', fuel = f' + 1 := ⟨fuel - 1, by omega⟩
    rw [X7_oneMore_L89, if_pos (yL (by omega) (by omega) (by omega))]
    exact ⟨w1, rfl, h1, fun i hi => h3 i (by omega)⟩
  | succ d ih =>
    intro k fuel w1 hd hf h1 h2 h3
    obtain ⟨f', rfl⟩ : ∃ f', fuel = f' + 1 := ⟨fuel - 1, by omega⟩
    rw [X7_oneMore_L89, if_neg (nL (by omega) (by omega) (by omega)), ga_n (by omega) (by decide), h2 k (by omega), pa_n (by omega) (by decide), bnd_e, iI_add]
    exact ih (k + 1) f' _ (by omega) (by omega) (h1.wr _ ⟨rfl, Or.inr (Or.inl rfl)⟩) (fun i hi => by rw [rd_o (by decide)]; exact h2 i hi) (fun i hi => by
      by_cases ei : i = k
      · subst ei; rw [rd_eq]
      · rw [rd_j ei]; exact h3 i (by omega))
theorem m_ways (hC : CodeM w c C) (hk : cok C) (hc : c < 4) (hb : ∀ i, i < 5 → f i ≤ 134217728) (hz : ∀ m, ms C ≤ m → m < 5 → f m = 0) (h5 : ∀ i, i < 5 → rd w 12 13 i = iI (f i : Nat)) : ∃ w', X7_oneMore w (iI (c : Nat)) = some w' ∧ Fr SWm w w' ∧ (∀ i, i < 5 → rd w' 12 13 i = iI (accM C f 5 i : Nat)) := by
  unfold X7_oneMore
  obtain ⟨w1, a1, a2, a3, a4⟩ := m_waysZ (w := w) (f := f) X7_oneMore_L20 (iI (c : Nat)) 5 0 1000 w (by omega) (by omega) (Fr.rf _ w) h5 (fun i hi => by omega)
  rw [show (iI 0 : Int32) = iI ((0 : Nat) : Int) from rfl, a1]
  unfold X7_oneMore_L20
  obtain ⟨w2, b1, b2, b3⟩ := m_waysM (w := w) (f := f) hC hk hc hb hz X7_oneMore_L87 5 0 1000 w1 (by omega) (by omega) a2 a3 (fun i hi => a4 i hi)
  rw [show (iI 0 : Int32) = iI ((0 : Nat) : Int) from rfl, b1]
  unfold X7_oneMore_L87
  exact m_waysC 5 0 1000 w2 (by omega) (by omega) b2 b3 (fun i hi => by omega)
theorem accM_z {C : Cd} (hk : cok C) (f : Nat → Nat) {i : Nat} (hi : ms C ≤ i) : ∀ k, accM C f k i = 0 := by
  intro k
  induction k with
  | zero => rfl
  | succ k ih =>
    have : ∀ j, j ≤ 8 → accU C f k (accM C f k) j i = 0 := by
      intro j
      induction j with
      | zero => intro _; exact ih
      | succ j ih2 =>
        intro hj
        show stA C f k j (accU C f k (accM C f k) j) i = 0
        unfold stA
        cases e : trc C k j with
        | none => exact ih2 (by omega)
        | some q =>
          obtain ⟨m', s⟩ := q
          obtain ⟨-, q1, -⟩ := trc_ok hk (show j < 8 by omega) e
          dsimp only
          rw [if_neg (by omega)]; exact ih2 (by omega)
    exact this 8 (by omega)
theorem wy_z {C : Cd} (hk : cok C) {i : Nat} (hi : ms C ≤ i) : ∀ k, wy C k i = 0 := by
  intro k
  cases k with
  | zero => show (if i = 0 then 1 else 0) = 0; rw [if_neg (by have := ms_pos C; omega)]
  | succ k => exact accM_z hk _ hi 5
theorem m_rowsL (hC : CodeM w c C) (hk : cok C) (hc : c < 4) {n : Nat} (hn : n ≤ 9) : ∀ d k fuel w1, k + d = n → d < fuel → Fr SWm w w1 → (∀ i, i < 5 → rd w1 12 13 i = iI (wy C k i : Nat)) → ∃ w', X7_rowsNow_L30 fuel (iI (c : Nat)) (iI (n : Nat)) (iI (k : Nat)) w1 = some (iI (wy C n 0 : Nat), w') ∧ Fr SWm w w' := by
  intro d
  induction d with
  | zero =>
    intro k fuel w1 hd hf h1 h2
    obtain ⟨f', rfl⟩ : ∃ f', fuel = f' + 1 := ⟨fuel - 1, by omega⟩
    obtain rfl : k = n := by omega
    rw [X7_rowsNow_L30, if_pos (yL (by omega) (by omega) (by omega)), ga_e (k := 0) (by omega) (by omega) (by decide), h2 0 (by decide)]
    exact ⟨w1, rfl, h1⟩
  | succ d ih =>
    intro k fuel w1 hd hf h1 h2
    obtain ⟨f', rfl⟩ : ∃ f', fuel = f' + 1 := ⟨fuel - 1, by omega⟩
    obtain ⟨w2, e1, e2, e3⟩ := m_ways (SWm_code h1 hC) hk hc (fun i hi => wy_lt C (show k ≤ 9 by omega) hi) (fun m h _ => wy_z hk h k) h2
    rw [X7_rowsNow_L30, if_neg (nL (by omega) (by omega) (by omega)), e1, ob_s, bnd_e, iI_add]
    exact ih (k + 1) f' w2 (by omega) (by omega) (h1.tr e2) e3
theorem m_rows0 (K : Int32 → Int32 → Wd → Option (Int32 × Wd)) (v v2 : Int32) : ∀ d k fuel w1, k + d = 5 → d < fuel → Fr SWm w w1 → (∀ i, i < k → rd w1 12 13 i = iI (wy C 0 i : Nat)) → ∃ w', X7_rowsNow_L2 fuel K v v2 (iI (k : Nat)) w1 = K v v2 w' ∧ Fr SWm w w' ∧ (∀ i, i < 5 → rd w' 12 13 i = iI (wy C 0 i : Nat)) := by
  intro d
  induction d with
  | zero =>
    intro k fuel w1 hd hf h1 h3
    obtain ⟨f', rfl⟩ : ∃ f', fuel = f' + 1 := ⟨fuel - 1, by omega⟩
    rw [X7_rowsNow_L2, if_pos (yL (by omega) (by omega) (by omega))]
    exact ⟨w1, rfl, h1, fun i hi => h3 i (by omega)⟩
  | succ d ih =>
    intro k fuel w1 hd hf h1 h3
    obtain ⟨f', rfl⟩ : ∃ f', fuel = f' + 1 := ⟨fuel - 1, by omega⟩
    rw [X7_rowsNow_L2, if_neg (nL (by omega) (by omega) (by omega))]
    have fin : ∀ v3, v3 = iI (wy C 0 k : Nat) → ∃ w', X7_rowsNow_L2 f' K v v2 (iI ((k : Int) + 1)) (wr w1 12 13 k v3) = K v v2 w' ∧ Fr SWm w w' ∧ (∀ i, i < 5 → rd w' 12 13 i = iI (wy C 0 i : Nat)) := by
      intro v3 hv
      exact ih (k + 1) f' _ (by omega) (by omega) (h1.wr _ ⟨rfl, Or.inr (Or.inl rfl)⟩) (fun i hi => by
        by_cases ei : i = k
        · subst ei; rw [rd_eq, hv]
        · rw [rd_j ei]; exact h3 i (by omega))
    by_cases h0 : k = 0
    · rw [if_pos (yE0 (by omega)), pa_n (by omega) (by decide), bnd_e, iI_add]
      exact fin _ (by show iI 1 = iI ((if k = 0 then 1 else 0 : Nat) : Int); rw [if_pos h0]; rfl)
    · rw [if_neg (nE0 (by omega) (by omega)), pa_n (by omega) (by decide), bnd_e, iI_add]
      exact fin _ (by show iI 0 = iI ((if k = 0 then 1 else 0 : Nat) : Int); rw [if_neg h0]; rfl)
theorem m_rows (hC : CodeM w c C) (hk : cok C) (hc : c < 4) {n : Nat} (hn : n ≤ 9) : ∃ w', X7_rowsNow w (iI (c : Nat)) (iI (n : Nat)) = some (iI (wy C n 0 : Nat), w') ∧ Fr SWm w w' := by
  unfold X7_rowsNow
  obtain ⟨w1, a1, a2, a3⟩ := m_rows0 (w := w) (C := C) X7_rowsNow_L28 (iI (c : Nat)) (iI (n : Nat)) 5 0 1000 w (by omega) (by omega) (Fr.rf _ w) (fun i hi => by omega)
  rw [show (iI 0 : Int32) = iI ((0 : Nat) : Int) from rfl, a1]
  unfold X7_rowsNow_L28
  exact m_rowsL hC hk hc hn n 0 1000 w1 (by omega) (by omega) a2 a3
end MROWS
theorem SWx_sc {g a o j : Nat} (hg : 1 ≤ g ∧ g ≤ 4) (h : SWx g a o j) : ScX a o j := by unfold SWx at h; unfold ScX; omega
theorem SWm_sc {g o j : Nat} (h : SWm g o j) : ScM g o j := by unfold SWm at h; unfold ScM; omega
theorem op_rows {w : Wd} (h : Rel w) (a b : Int32) : ∃ r w1 w2, X6_rows w a b = some (r, w1) ∧ X7_rows w1 a b = some (r, w2) ∧ Rel w2 := by
  obtain ⟨pl, cm, ln, n, us, pg, C, hR⟩ := id h
  obtain ⟨z, hz, rfl⟩ := iI_ex a
  obtain ⟨y, hy, rfl⟩ := iI_ex b
  have xi := hR.xc.isCode hz
  have mi := hR.mc.isCode hz
  have wi := wi_iff (a := y) (b := 0) (c := 9) hy (by decide) (by decide)
  unfold X6_rows X7_rows
  by_cases out : 0 ≤ z ∧ z < n
  · rw [if_neg (fun q => xi.mp q out)]
    obtain ⟨c, rfl⟩ : ∃ c : Nat, z = c := ⟨z.toNat, by omega⟩
    have hn := hR.2.2.2.1.1
    by_cases o1 : y < 0
    · exact ⟨_, w, w, by rw [if_pos (yT0 o1 hy)], by rw [if_neg (fun q => mi.mp q out), if_pos (wi.mpr (by omega))], h⟩
    · rw [if_neg (nT0 (by omega) hy)]
      by_cases o2 : y ≤ 9
      · obtain ⟨i, rfl⟩ : ∃ i : Nat, y = i := ⟨y.toNat, by omega⟩
        obtain ⟨hk, cx, cM⟩ := hR.2.2.2.1.2.2.2 c (by omega)
        obtain ⟨w1, e1, e2⟩ := x_rows cx hk (n := i) (by omega)
        have f1 : Fr ScX w w1 := e2.mono (fun _ _ _ hh => SWx_sc (by omega) hh)
        have hR1 := hR.fr (scX_sc f1)
        obtain ⟨hk', -, cM'⟩ := hR1.2.2.2.1.2.2.2 c (by omega)
        obtain ⟨w2, g1, g2⟩ := m_rows cM' hk' (by omega) (n := i) (by omega)
        refine ⟨_, w1, w2, by rw [if_pos (yL (by omega) hy (by decide)), ix_n (by omega) (by decide), e1, bI_s], ?_, pl, cm, ln, n, us, pg, C, hR1.fr (scM_sc (g2.mono (fun _ _ _ => SWm_sc)))⟩
        rw [if_neg (fun q => (hR1.mc.isCode hz).mp q out), if_neg (fun q => wi.mp q (by omega)), g1, bI_s]
      · exact ⟨_, w, w, by rw [if_neg (nL (by omega) hy (by decide))], by rw [if_neg (fun q => mi.mp q out), if_pos (wi.mpr (by omega))], h⟩
  · exact ⟨_, w, w, by rw [if_pos (xi.mpr out)], by rw [if_pos (mi.mpr out)], h⟩

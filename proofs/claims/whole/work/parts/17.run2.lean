/-! Whole runs. -/
theorem rnF_frozen {C : Cd} {us : Nat → Nat} {f k : Nat} (h : (rnF C us f k).1 = false) : ∀ d, rnF C us f (k + d) = rnF C us f k := by
  intro d
  induction d with
  | zero => rfl
  | succ d ih =>
    show rnS C (us (f + (k + d))) (rnF C us f (k + d)) = _
    rw [ih]
    revert h
    generalize rnF C us f k = r
    obtain ⟨a, sd, p, sg, wt, pr⟩ := r
    intro h
    dsimp only at h
    subst h
    exact rnS_dead
theorem rnS_pl {C : Cd} (hk : cok C) {r : Rn} {u : Nat} (hu : u < 8) (h : r.2.2.1 < 3 * ms C) : (rnS C u r).2.2.1 < 3 * ms C := by
  obtain ⟨a, sd, p, sg, wt, pr⟩ := r
  cases a with
  | false => rw [rnS_dead]; exact h
  | true =>
    cases e : trc C (p / 3) u with
    | none => rw [rnS_none e]; exact h
    | some q =>
      obtain ⟨m', s⟩ := q
      obtain ⟨-, q1, q2⟩ := trc_ok hk hu e
      dsimp only at h
      by_cases hs : s = 0
      · subst hs; rw [rnS_zero e]; dsimp only; omega
      · by_cases hp : p % 3 = 0
        · rw [rnS_first e hs hp]; dsimp only; omega
        · rw [rnS_pair e hs hp]; dsimp only; omega
theorem rnF_pl {C : Cd} (hk : cok C) {us : Nat → Nat} {f : Nat} : ∀ k, (∀ j, j < k → us (f + j) < 8) → (rnF C us f k).2.2.1 < 3 * ms C := by
  intro k
  induction k with
  | zero => intro _; show 0 < 3 * ms C; have := ms_pos C; omega
  | succ k ih => intro h; exact rnS_pl hk (h k (by omega)) (ih (fun j hj => h j (by omega)))
/-- stood, signs, weight, pairs: bounds -/
theorem rnS_bd {C : Cd} (hk : cok C) {r : Rn} {u k : Nat} (hu : u < 8) (h : r.2.1 ≤ k ∧ r.2.2.2.1 ≤ k ∧ r.2.2.2.2.1 ≤ 9 * k ∧ (r.1 = true → r.2.1 = k)) : (rnS C u r).2.1 ≤ k + 1 ∧ (rnS C u r).2.2.2.1 ≤ k + 1 ∧ (rnS C u r).2.2.2.2.1 ≤ 9 * (k + 1) ∧ ((rnS C u r).1 = true → (rnS C u r).2.1 = k + 1) := by
  obtain ⟨a, sd, p, sg, wt, pr⟩ := r
  dsimp only at h
  cases a with
  | false => rw [rnS_dead]; dsimp only; refine ⟨by omega, by omega, by omega, fun h => by cases h⟩
  | true =>
    obtain ⟨h1, h2, h3, h4⟩ := h
    have h5 := h4 rfl
    cases e : trc C (p / 3) u with
    | none => rw [rnS_none e]; dsimp only; exact ⟨by omega, by omega, by omega, fun h => by cases h⟩
    | some q =>
      obtain ⟨m', s⟩ := q
      obtain ⟨-, q1, q2⟩ := trc_ok hk hu e
      by_cases hs : s = 0
      · subst hs; rw [rnS_zero e]; dsimp only; exact ⟨by omega, by omega, by omega, fun _ => by omega⟩
      · by_cases hp : p % 3 = 0
        · rw [rnS_first e hs hp]; dsimp only; exact ⟨by omega, by omega, by omega, fun _ => by omega⟩
        · have := hk.2.2.2 ((p % 3 - 1) * 2 + (s - 1)) (by omega)
          rw [rnS_pair e hs hp]; dsimp only; exact ⟨by omega, by omega, by omega, fun _ => by omega⟩
theorem rnF_bd {C : Cd} (hk : cok C) {us : Nat → Nat} {f : Nat} : ∀ k, (∀ j, j < k → us (f + j) < 8) → (rnF C us f k).2.1 ≤ k ∧ (rnF C us f k).2.2.2.1 ≤ k ∧ (rnF C us f k).2.2.2.2.1 ≤ 9 * k ∧ ((rnF C us f k).1 = true → (rnF C us f k).2.1 = k) := by
  intro k
  induction k with
  | zero => intro _; exact ⟨Nat.le_refl _, Nat.le_refl _, Nat.le_refl _, fun _ => rfl⟩
  | succ k ih => intro h; exact rnS_bd hk (h k (by omega)) (ih (fun j hj => h j (by omega)))
theorem rnF_alive {C : Cd} {us : Nat → Nat} {f k : Nat} (h : (rnF C us f k).1 = true) {j : Nat} (hj : j ≤ k) : (rnF C us f j).1 = true := by
  cases e : (rnF C us f j).1 with
  | true => rfl
  | false =>
    have := rnF_frozen e (k - j)
    rw [show j + (k - j) = k by omega] at this
    rw [this, e] at h
    cases h
/-- the units that stood are those before the first one that isn't allowed -/
theorem rnF_stood {C : Cd} (hk : cok C) {us : Nat → Nat} {f k : Nat} (hu : ∀ j, j < k → us (f + j) < 8) : ∀ j, j ≤ k → ((rnF C us f j).1 = true ↔ j ≤ (rnF C us f k).2.1) := by
  induction k with
  | zero =>
    intro j hj
    have : j = 0 := by omega
    subst this
    exact ⟨fun _ => Nat.zero_le _, fun _ => rfl⟩
  | succ k ih =>
    have ih := ih (fun j hj => hu j (by omega))
    have b1 := rnF_bd hk (k + 1) hu
    have b0 := rnF_bd hk k (fun j hj => hu j (by omega))
    intro j hj
    by_cases hjk : j = k + 1
    · subst hjk
      constructor
      · intro h; rw [b1.2.2.2 h]; exact Nat.le_refl _
      · intro h
        cases e : (rnF C us f (k + 1)).1 with
        | true => rfl
        | false =>
          exfalso
          cases e0 : (rnF C us f k).1 with
          | false =>
            have := rnF_frozen e0 1
            rw [this] at h
            omega
          | true =>
            have : (rnF C us f (k + 1)).2.1 = (rnF C us f k).2.1 := by
              show (rnS C (us (f + k)) (rnF C us f k)).2.1 = _
              have e' : (rnS C (us (f + k)) (rnF C us f k)).1 = false := e
              revert e' e0
              generalize rnF C us f k = r
              obtain ⟨a, sd, p, sg, wt, pr⟩ := r
              intro e0 e'
              dsimp only at e0
              subst e0
              cases et : trc C (p / 3) (us (f + k)) with
              | none => rw [rnS_none et]
              | some q =>
                obtain ⟨m', s⟩ := q
                by_cases hs : s = 0
                · subst hs; rw [rnS_zero et] at e'; cases e'
                · by_cases hp : p % 3 = 0
                  · rw [rnS_first et hs hp] at e'; cases e'
                  · rw [rnS_pair et hs hp] at e'; cases e'
            omega
    · have := ih j (by omega)
      rw [this]
      cases e0 : (rnF C us f k).1 with
      | false =>
        have := rnF_frozen e0 1
        rw [this]
      | true =>
        have h1 := b0.2.2.2 e0
        have h2 : k ≤ (rnF C us f (k + 1)).2.1 := by
          show k ≤ (rnS C (us (f + k)) (rnF C us f k)).2.1
          revert e0 h1
          generalize rnF C us f k = r
          obtain ⟨a, sd, p, sg, wt, pr⟩ := r
          intro e0 h1
          dsimp only at e0 h1
          subst e0
          cases et : trc C (p / 3) (us (f + k)) with
          | none => rw [rnS_none et]; dsimp only; omega
          | some q =>
            obtain ⟨m', s⟩ := q
            by_cases hs : s = 0
            · subst hs; rw [rnS_zero et]; dsimp only; omega
            · by_cases hp : p % 3 = 0
              · rw [rnS_first et hs hp]; dsimp only; omega
              · rw [rnS_pair et hs hp]; dsimp only; omega
        omega
theorem m_beginL (w : Wd) : ∀ k i fuel w1, i + k = 4 → k < fuel → Fr SRun w w1 → ∃ w', X7_begin_L27 fuel (iI (i : Nat)) w1 = some w' ∧ Fr SRun w w' ∧ (∀ j, i ≤ j → j < 4 → rd w' 12 7 j = iI 0) ∧ (∀ g o j, ¬ (g = 12 ∧ o = 7 ∧ i ≤ j) → rd w' g o j = rd w1 g o j) := by
  intro k
  induction k with
  | zero =>
    intro i fuel w1 hi hf h
    obtain ⟨f, rfl⟩ : ∃ f, fuel = f + 1 := ⟨fuel - 1, by omega⟩
    rw [X7_begin_L27, if_pos (yL (by omega) (by omega) (by omega))]
    exact ⟨w1, rfl, h, fun j _ _ => by omega, fun _ _ _ _ => rfl⟩
  | succ k ih =>
    intro i fuel w1 hi hf h
    obtain ⟨f, rfl⟩ : ∃ f, fuel = f + 1 := ⟨fuel - 1, by omega⟩
    rw [X7_begin_L27, if_neg (nL (by omega) (by omega) (by omega)), pa_n (by omega) (by decide), bnd_e, iI_add]
    obtain ⟨w', e1, e2, e3, e4⟩ := ih (i + 1) f (wr w1 12 7 i (iI 0)) (by omega) (by omega) (h.wr _ (by unfold SRun; omega))
    refine ⟨w', e1, e2, fun j h1 h2 => ?_, fun g o j hn => ?_⟩
    · by_cases hj : j = i
      · subst hj; rw [e4 _ _ _ (by omega), rd_eq]
      · exact e3 j (by omega) h2
    · rw [e4 g o j (by omega), rd_ne (by omega)]
theorem m_begin (w : Wd) : ∃ w', X7_begin w = some w' ∧ MReg w' rn0 ∧ Fr SRun w w' := by
  unfold X7_begin
  simp only [bnd_e]
  obtain ⟨w', e1, e2, e3, e4⟩ := m_beginL w 4 0 1000 (wr (wr (wr (wr (wr w 12 0 14 (iI 0)) 12 0 15 (iI (-1))) 12 0 16 (iI 0)) 12 0 17 (iI 0)) 12 0 18 (iI 0)) rfl (by omega) (by
    refine (((((Fr.rf SRun w).wr _ ?_).wr _ ?_).wr _ ?_).wr _ ?_).wr _ ?_ <;> unfold SRun <;> omega)
  refine ⟨w', e1, ⟨?_, ?_, ?_, ?_, ?_, fun i hi => e3 i (by omega) hi⟩, e2⟩
  all_goals (rw [e4 _ _ _ (by omega)]; simp [rd_wr, rn0])
theorem SRun_code {w w' : Wd} {c : Nat} {C : Cd} (f : Fr SRun w w') (h : CodeM w c C) : CodeM w' c C := h.fr (fun o j h1 h2 => f.1 12 o j (by unfold SRun; omega))
theorem m_goAlongL {w : Wd} {c : Nat} {C : Cd} (hC : CodeM w c C) (hk : cok C) (hc : c < 4) {us : Nat → Nat} {many : Nat} (hm : many ≤ 40) (hu : ∀ j, j < many → us j < 8 ∧ rd w 12 5 j = iI (us j : Nat)) :
    ∀ d k fuel w1, k + d = many → d < fuel → Fr SRun w w1 → MReg w1 (rn C us k) → ∃ w', X7_goAlong_L6 fuel (iI (c : Nat)) (iI (many : Nat)) (iI (k : Nat)) w1 = some w' ∧ MReg w' (rn C us many) ∧ Fr SRun w w' := by
  intro d
  induction d with
  | zero =>
    intro k fuel w1 hd hf h1 h2
    obtain ⟨f, rfl⟩ : ∃ f, fuel = f + 1 := ⟨fuel - 1, by omega⟩
    obtain rfl : k = many := by omega
    rw [X7_goAlong_L6, if_pos (yL (by omega) (by omega) (by omega))]
    exact ⟨w1, rfl, h2, h1⟩
  | succ d ih =>
    intro k fuel w1 hd hf h1 h2
    obtain ⟨f, rfl⟩ : ∃ f, fuel = f + 1 := ⟨fuel - 1, by omega⟩
    rw [X7_goAlong_L6, if_neg (nL (by omega) (by omega) (by omega))]
    cases ea : (rn C us k).1 with
    | false =>
      have hfz := rnF_frozen ea (many - k)
      rw [show k + (many - k) = many by omega] at hfz
      have h14 : rd w1 12 0 14 = iI (-1) := by rw [h2.1, ea]; rfl
      rw [h14, if_pos rfl]
      refine ⟨w1, rfl, ?_, h1⟩
      show MReg w1 (rnF C us 0 many)
      rw [hfz]
      exact h2
    | true =>
      have hpl : (rn C us k).2.2.1 < 3 * ms C := rnF_pl hk (us := us) (f := 0) k (fun j hj => by rw [Nat.zero_add]; exact (hu j (by omega)).1)
      have := ms_le C
      have h14 : rd w1 12 0 14 = iI (((rn C us k).2.2.1 / 3 : Nat) : Int) := by rw [h2.1, ea]; rfl
      rw [h14, if_neg (nE (by omega) (by omega) (by omega)), ga_n (by omega) (by decide), h1.1 12 5 k (by unfold SRun; omega), (hu k (by omega)).2]
      obtain ⟨w2, e1, e2, e3⟩ := m_goOn (SRun_code h1 hC) hk hc h2 ea hpl (hu k (by omega)).1
      rw [e1, ob_s, bnd_e, iI_add]
      have e2' : MReg w2 (rn C us (k + 1)) := by
        show MReg w2 (rnS C (us (0 + k)) (rnF C us 0 k))
        rw [Nat.zero_add]; exact e2
      exact ih (k + 1) f w2 (by omega) (by omega) (h1.tr e3) e2'
theorem m_goAlong {w : Wd} {c : Nat} {C : Cd} (hC : CodeM w c C) (hk : cok C) (hc : c < 4) {us : Nat → Nat} {many : Nat} (hm : many ≤ 40) (hu : ∀ j, j < many → us j < 8 ∧ rd w 12 5 j = iI (us j : Nat)) :
    ∃ w', X7_goAlong w (iI (c : Nat)) (iI (many : Nat)) = some w' ∧ MReg w' (rn C us many) ∧ Fr SRun w w' := by
  unfold X7_goAlong
  obtain ⟨w1, e1, e2, e3⟩ := m_begin w
  rw [e1, ob_s]
  exact m_goAlongL hC hk hc hm hu many 0 1000 w1 (by omega) (by omega) e3 e2

/-! apart: the reference. -/
def RR (C1 C2 : Cd) : Nat → Nat → Prop
  | 0, s => pS s
  | k + 1, s => vS C1 C2 s ∧ ∃ u, u < 8 ∧ ∃ s', dl C1 C2 s u = some s' ∧ RR C1 C2 k s'
theorem vS0 (C1 C2 : Cd) : vS C1 C2 0 := by
  have := ms_pos C1
  have := ms_pos C2
  unfold vS; omega
theorem ru_v {C1 C2 : Cd} (k1 : cok C1) (k2 : cok C2) : ∀ n y s, ru (dl C1 C2) n y = some s → vS C1 C2 s ∧ s < 30 ∧ 8 ^ n ≤ y ∧ y < 2 * 8 ^ n := by
  intro n
  induction n with
  | zero =>
    intro y s e
    unfold ru at e
    by_cases z : y = 1
    · rw [if_pos z] at e; cases e; exact ⟨vS0 C1 C2, by omega, by omega, by omega⟩
    · rw [if_neg z] at e; cases e
  | succ n ih =>
    intro y s e
    unfold ru at e
    cases e0 : ru (dl C1 C2) n (y / 8) with
    | none => rw [e0] at e; cases e
    | some s0 =>
      rw [e0] at e
      obtain ⟨-, -, i1, i2⟩ := ih _ _ e0
      obtain ⟨d1, d2⟩ := dl_ok k1 k2 (Nat.mod_lt _ (by decide)) e
      exact ⟨d2, d1, by rw [Nat.pow_succ]; omega, by rw [Nat.pow_succ]; omega⟩
theorem RR_word {C1 C2 : Cd} : ∀ k n y s, ru (dl C1 C2) n y = some s → RR C1 C2 k s → ∃ z s', ru (dl C1 C2) (n + k) z = some s' ∧ pS s' ∧ z / 8 ^ k = y := by
  intro k
  induction k with
  | zero => intro n y s e r; exact ⟨y, s, e, r, by rw [Nat.pow_zero, Nat.div_one]⟩
  | succ k ih =>
    intro n y s e r
    obtain ⟨-, u, hu, s1, e1, r1⟩ := r
    have e2 : ru (dl C1 C2) (n + 1) (8 * y + u) = some s1 := by
      show (match ru (dl C1 C2) n ((8 * y + u) / 8) with | none => none | some s => dl C1 C2 s ((8 * y + u) % 8)) = _
      rw [show (8 * y + u) / 8 = y by omega, show (8 * y + u) % 8 = u by omega, e]
      exact e1
    obtain ⟨z, s', a1, a2, a3⟩ := ih (n + 1) (8 * y + u) s1 e2 r1
    refine ⟨z, s', by rw [show n + (k + 1) = n + 1 + k by omega]; exact a1, a2, ?_⟩
    rw [Nat.pow_succ, ← Nat.div_div_eq_div_mul, a3]; omega
theorem word_RR {C1 C2 : Cd} (k1 : cok C1) (k2 : cok C2) : ∀ k n z s', ru (dl C1 C2) (n + k) z = some s' → pS s' → ∃ s, ru (dl C1 C2) n (z / 8 ^ k) = some s ∧ RR C1 C2 k s := by
  intro k
  induction k with
  | zero => intro n z s' e p; exact ⟨s', by rw [Nat.pow_zero, Nat.div_one]; exact e, p⟩
  | succ k ih =>
    intro n z s' e p
    obtain ⟨s1, a1, a2⟩ := ih (n + 1) z s' (by rw [show n + 1 + k = n + (k + 1) by omega]; exact e) p
    unfold ru at a1
    cases e0 : ru (dl C1 C2) n (z / 8 ^ k / 8) with
    | none => rw [e0] at a1; cases a1
    | some s =>
      rw [e0] at a1
      refine ⟨s, by rw [Nat.pow_succ, ← Nat.div_div_eq_div_mul]; exact e0, (ru_v k1 k2 _ _ _ e0).1, _, Nat.mod_lt _ (by decide), s1, a1, a2⟩
def S13 (g o j : Nat) : Prop := g = 12 ∧ o = 0 ∧ j = 13
def SPt (g o j : Nat) : Prop := g = 12 ∧ ((o = 0 ∧ j = 13) ∨ o = 15)
theorem SPt_m {g o j : Nat} (h : SPt g o j) : ScM g o j := by unfold SPt at h; unfold ScM; omega
theorem S13_p {g o j : Nat} (h : S13 g o j) : SPt g o j := by unfold S13 at h; unfold SPt; omega
theorem or0 (x : Int32) : x ||| (iI 0) = x := by
  apply Int32.toBitVec_inj.mp
  rw [Int32.toBitVec_or, show (iI 0).toBitVec = 0#32 from rfl, BitVec.or_zero]
theorem Bits.ext {x k : Nat} {P : Nat → Prop} (h : Bits x k P) : ∀ d, (∀ s, k ≤ s → s < k + d → ¬ P s) → Bits x (k + d) P := by
  intro d
  induction d with
  | zero => intro _; exact h
  | succ d ih => intro hn; exact (ih (fun s h1 h2 => hn s h1 (by omega))).no (hn (k + d) (by omega) (by omega))
section PARTM
variable {w : Wd} {a b : Nat} {C1 C2 : Cd}
theorem S13_code {w' : Wd} {c : Nat} {C : Cd} (fr : Fr S13 w w') (h : CodeM w c C) : CodeM w' c C := h.fr (fun o j h1 h2 => fr.1 _ o j (by unfold S13; omega))
theorem SPt_code {w' : Wd} {c : Nat} {C : Cd} (fr : Fr SPt w w') (h : CodeM w c C) : CodeM w' c C := h.fr (fun o j h1 h2 => fr.1 _ o j (by unfold SPt; omega))
theorem m_both (hA : CodeM w a C1) (hB : CodeM w b C2) (k1 : cok C1) (k2 : cok C2) (ha : a < 4) (hb : b < 4) {s u : Nat} (hs : s < 30) (hv : vS C1 C2 s) (hu : u < 8) : ∃ w', X7_bothBehind w (iI (a : Nat)) (iI (b : Nat)) (iI (s : Nat)) (iI (u : Nat)) = some (oE (dl C1 C2 s u), w') ∧ Fr S13 w w' := by
  have m1 := ms_le C1
  have m2 := ms_le C2
  unfold X7_bothBehind
  rw [iI_div (by omega) (by omega) (by decide) (by decide), show ((s : Int) / 6) = ((s / 6 : Nat) : Int) by omega, m_step hA k1 ha hv.1 hu, bI_s, iI_irm (by omega) (by omega) (by decide) (by decide), show ((s : Int) % 6) = ((s % 6 : Nat) : Int) by omega]
  have f1 : Fr S13 w (wr w 12 0 13 (sE (tr C1 (s / 6) u))) := (Fr.rf _ w).wr _ ⟨rfl, rfl, rfl⟩
  have et : trc C1 (s / 6) u = tr C1 (s / 6) u := trc_in hv.1
  have hB1 := S13_code f1 hB
  generalize wr w 12 0 13 (sE (tr C1 (s / 6) u)) = w1 at f1 hB1 ⊢
  unfold dl
  rw [et]
  cases e1 : tr C1 (s / 6) u with
  | none =>
    rw [show oE (Option.map (fun q => q.1) (none : Option (Nat × Nat))) = iI (-1) from rfl, if_pos rfl]
    exact ⟨w1, rfl, f1⟩
  | some q1 =>
    obtain ⟨p, p'⟩ := q1
    obtain ⟨-, x1, -⟩ := trc_ok k1 hu (et.trans e1)
    rw [show oE (Option.map (fun q => q.1) (some (p, p'))) = iI (p : Nat) from rfl, if_neg (nE (by omega) (by omega) (by omega))]
    dsimp only
    by_cases h5 : s % 6 = 5
    · have e2 : trc C2 (s % 6) u = none := by unfold trc; rw [if_neg (by omega)]
      rw [if_pos (yE (by omega)), if_pos rfl, e2, iI_mul, iI_add]
      refine ⟨w1, ?_, f1⟩
      show some (iI _, w1) = some (iI ((6 * p + 5 : Nat) : Int), w1)
      congr 3
    · have hm : s % 6 < ms C2 := by have := hv.2; omega
      rw [if_neg (nE (by omega) (by omega) (by omega)), m_step hB1 k2 hb hm hu, bI_s, trc_in hm]
      cases e2 : tr C2 (s % 6) u with
      | none =>
        rw [show oE (Option.map (fun q => q.1) (none : Option (Nat × Nat))) = iI (-1) from rfl, if_pos rfl, iI_mul, iI_add]
        exact ⟨_, rfl, f1.wr _ ⟨rfl, rfl, rfl⟩⟩
      | some q2 =>
        obtain ⟨c, c'⟩ := q2
        obtain ⟨-, x2, -⟩ := trc_ok k2 hu ((trc_in hm).trans e2)
        rw [show oE (Option.map (fun q => q.1) (some (c, c'))) = iI (c : Nat) from rfl, if_neg (nE (by omega) (by omega) (by omega)), iI_mul, iI_add]
        exact ⟨_, rfl, f1.wr _ ⟨rfl, rfl, rfl⟩⟩
theorem m_goesL (hA : CodeM w a C1) (hB : CodeM w b C2) (k1 : cok C1) (k2 : cok C2) (ha : a < 4) (hb : b < 4) {s x : Nat} (hs : s < 30) (hv : vS C1 C2 s) {P : Nat → Prop} (hx : Bits x 30 P) :
    ∀ d u fuel w1, u + d = 8 → d < fuel → Fr S13 w w1 → (∀ v, v < u → ∀ s', dl C1 C2 s v = some s' → ¬ P s') → ∃ r w', X7_goesTo_L6 fuel (iI (a : Nat)) (iI (b : Nat)) (iI (s : Nat)) (iI (x : Nat)) (iI 0) (iI (u : Nat)) w1 = some (r, w') ∧ Fr S13 w w' ∧ ((r = iI 1 ∧ ∃ v, v < 8 ∧ ∃ s', dl C1 C2 s v = some s' ∧ P s') ∨ (r = iI 0 ∧ ¬ ∃ v, v < 8 ∧ ∃ s', dl C1 C2 s v = some s' ∧ P s')) := by
  intro d
  induction d with
  | zero =>
    intro u fuel w1 hd hf f1 hn
    obtain ⟨f', rfl⟩ : ∃ f', fuel = f' + 1 := ⟨fuel - 1, by omega⟩
    rw [X7_goesTo_L6, if_pos (yL (by omega) (by omega) (by omega)), zb_0]
    exact ⟨_, w1, rfl, f1, Or.inr ⟨rfl, fun q => by obtain ⟨v, h1, s', h2, h3⟩ := q; exact hn v (by omega) s' h2 h3⟩⟩
  | succ d ih =>
    intro u fuel w1 hd hf f1 hn
    obtain ⟨f', rfl⟩ : ∃ f', fuel = f' + 1 := ⟨fuel - 1, by omega⟩
    obtain ⟨w2, e1, e2⟩ := m_both (S13_code f1 hA) (S13_code f1 hB) k1 k2 ha hb hs hv (show u < 8 by omega)
    rw [X7_goesTo_L6, if_neg (nL (by omega) (by omega) (by omega)), if_pos (show iI 0 = 0 from rfl), e1, bI_s]
    simp only [bnd_e, iI_add]
    cases ed : dl C1 C2 s u with
    | none =>
      rw [show oE none = iI (-1) from rfl, if_pos rfl]
      exact ih (u + 1) f' w2 (by omega) (by omega) (f1.tr e2) (fun v hv s' h => by
        by_cases z : v = u
        · rw [z, ed] at h; cases h
        · exact hn v (by omega) s' h)
    | some s' =>
      obtain ⟨d1, d2⟩ := dl_ok k1 k2 (show u < 8 by omega) ed
      have gb := getb1 (x := x) (s := s') (by have := hx.1; omega) d1
      rw [hx.2 s' d1] at gb
      rw [show oE (some s') = iI (s' : Nat) from rfl, if_neg (nE (by omega) (by omega) (by omega))]
      by_cases p : P s'
      · rw [if_pos (gb.mpr p)]
        have yes : ∃ v, v < 8 ∧ ∃ s', dl C1 C2 s v = some s' ∧ P s' := ⟨u, by omega, s', ed, p⟩
        obtain ⟨f2, rfl⟩ : ∃ f2, f' = f2 + 1 := ⟨f' - 1, by omega⟩
        refine ⟨iI 1, w2, ?_, f1.tr e2, Or.inl ⟨rfl, yes⟩⟩
        rw [X7_goesTo_L6]
        by_cases z : (8 : Int) ≤ (u : Int) + 1
        · rw [if_pos (yL z (by omega) (by omega)), zb_1]
        · rw [if_neg (nL (by omega) (by omega) (by omega)), if_neg (by decide), zb_1]
      · rw [if_neg (fun t => p (gb.mp t))]
        exact ih (u + 1) f' w2 (by omega) (by omega) (f1.tr e2) (fun v hv s2 h => by
          by_cases z : v = u
          · rw [z, ed] at h; cases h; exact p
          · exact hn v (by omega) s2 h)
theorem m_isBoth (hA : CodeM w a C1) (hB : CodeM w b C2) (k1 : cok C1) (k2 : cok C2) (ha : a < 4) (hb : b < 4) {s : Nat} (hs : s < 30) : ∃ r, X7_isBoth w (iI (a : Nat)) (iI (b : Nat)) (iI (s : Nat)) = some r ∧ ((r = iI 1 ∧ vS C1 C2 s) ∨ (r = iI 0 ∧ ¬ vS C1 C2 s)) := by
  unfold X7_isBoth vS
  rw [ga_n ha (by decide), hA.1, iI_div (by omega) (by omega) (by decide) (by decide), show ((s : Int) / 6) = ((s / 6 : Nat) : Int) by omega, m_isState k1 (by omega), iI_irm (by omega) (by omega) (by decide) (by decide), show ((s : Int) % 6) = ((s % 6 : Nat) : Int) by omega]
  by_cases q1 : s / 6 < ms C1
  · rw [decide_eq_true q1, if_neg (by decide)]
    by_cases q2 : s % 6 = 5
    · rw [if_pos (yE (by omega))]
      exact ⟨_, rfl, Or.inl ⟨rfl, q1, Or.inl q2⟩⟩
    · rw [if_neg (nE (by omega) (by omega) (by omega)), ga_n hb (by decide), hB.1, m_isState k2 (by omega)]
      by_cases q3 : s % 6 < ms C2
      · rw [decide_eq_true q3, if_neg (by decide)]
        exact ⟨_, rfl, Or.inl ⟨rfl, q1, Or.inr q3⟩⟩
      · rw [decide_eq_false q3, if_pos (by decide)]
        exact ⟨_, rfl, Or.inr ⟨rfl, fun t => by omega⟩⟩
  · rw [decide_eq_false q1, if_pos (by decide)]
    exact ⟨_, rfl, Or.inr ⟨rfl, fun t => q1 t.1⟩⟩
def PB (w : Wd) (C1 C2 : Cd) (k : Nat) : Prop := ∃ x : Nat, rd w 12 15 k = iI (x : Nat) ∧ Bits x 30 (RR C1 C2 k)
theorem m_rowP (hA : CodeM w a C1) (hB : CodeM w b C2) (k1 : cok C1) (k2 : cok C2) (ha : a < 4) (hb : b < 4) {k : Nat} (hk : k + 1 ≤ 30) (K : Int32 → Int32 → Int32 → Wd → Option Wd) :
    ∀ d s fuel w1 (x : Nat), s + d = 30 → d < fuel → Fr SPt w w1 → (∀ j, j ≤ k → PB w1 C1 C2 j) → rd w1 12 15 (k + 1) = iI (x : Nat) → Bits x s (RR C1 C2 (k + 1)) → ∃ w', X7_layParts_L50 fuel K (iI (a : Nat)) (iI (b : Nat)) (iI ((k + 1 : Nat) : Int)) (iI (s : Nat)) w1 = K (iI (a : Nat)) (iI (b : Nat)) (iI ((k + 1 : Nat) : Int)) w' ∧ Fr SPt w w' ∧ (∀ j, j ≤ k + 1 → PB w' C1 C2 j) := by
  intro d
  induction d with
  | zero =>
    intro s fuel w1 x hd hf f1 h1 h2 h3
    obtain ⟨f', rfl⟩ : ∃ f', fuel = f' + 1 := ⟨fuel - 1, by omega⟩
    obtain rfl : s = 30 := by omega
    rw [X7_layParts_L50, if_pos (by decide)]
    refine ⟨w1, rfl, f1, fun j hj => ?_⟩
    by_cases z : j = k + 1
    · rw [z]; exact ⟨x, h2, h3⟩
    · exact h1 j (by omega)
  | succ d ih =>
    intro s fuel w1 x hd hf f1 h1 h2 h3
    obtain ⟨f', rfl⟩ : ∃ f', fuel = f' + 1 := ⟨fuel - 1, by omega⟩
    have hs : s < 30 := by omega
    obtain ⟨r, e1, e2⟩ := m_isBoth (SPt_code f1 hA) (SPt_code f1 hB) k1 k2 ha hb hs
    rw [X7_layParts_L50, if_neg (nL (by omega) (by omega) (by omega)), e1, ob_s]
    have no : ∀ w2, Fr S13 w1 w2 → ¬ RR C1 C2 (k + 1) s → ∃ w', X7_layParts_L92 (X7_layParts_L50 f' K) (iI (a : Nat)) (iI (b : Nat)) (iI ((k + 1 : Nat) : Int)) (iI (s : Nat)) (iI 0) w2 = K (iI (a : Nat)) (iI (b : Nat)) (iI ((k + 1 : Nat) : Int)) w' ∧ Fr SPt w w' ∧ (∀ j, j ≤ k + 1 → PB w' C1 C2 j) := by
      intro w2 f2 hn
      have hc : ∀ j, rd w2 12 15 j = rd w1 12 15 j := fun j => f2.1 _ _ _ (by unfold S13; omega)
      unfold X7_layParts_L92
      rw [ga_n (by omega) (by decide), if_pos (show iI 0 = 0 from rfl), or0, pa_n (by omega) (by decide), bnd_e, iI_add, hc, h2]
      refine ih (s + 1) f' _ x (by omega) (by omega) ((f1.tr (f2.mono (fun _ _ _ q => S13_p q))).wr _ (by unfold SPt; omega)) (fun j hj => ?_) rd_eq (h3.no hn)
      obtain ⟨y, y1, y2⟩ := h1 j hj
      exact ⟨y, by rw [rd_j (by omega), hc]; exact y1, y2⟩
    rcases e2 with ⟨r1, r2⟩ | ⟨r1, r2⟩
    · obtain ⟨y, y1, y2⟩ := h1 k (Nat.le_refl _)
      rw [r1, if_neg (by decide), iI_sub, ga_e (k := k) (by omega) (by omega) (by decide), y1]
      obtain ⟨r', w2, g1, g2, g3⟩ := m_goesL (SPt_code f1 hA) (SPt_code f1 hB) k1 k2 ha hb hs r2 y2 8 0 1000 w1 (by omega) (by omega) (Fr.rf _ w1) (fun v hv => by omega)
      unfold X7_goesTo
      rw [show X7_goesTo_L6 1000 (iI (a : Nat)) (iI (b : Nat)) (iI (s : Nat)) (iI (y : Nat)) (iI 0) (iI 0) w1 = _ from g1, bI_s]
      rcases g3 with ⟨t1, t2⟩ | ⟨t1, t2⟩
      · rw [t1, if_neg (by decide)]
        have hp : RR C1 C2 (k + 1) s := ⟨r2, t2⟩
        have hc : ∀ j, rd w2 12 15 j = rd w1 12 15 j := fun j => g2.1 _ _ _ (by unfold S13; omega)
        unfold X7_layParts_L92
        rw [ga_n (by omega) (by decide), if_neg (by decide), hc, h2, sh1 s hs, or_pow hs h3.1, pa_n (by omega) (by decide), bnd_e, iI_add]
        refine ih (s + 1) f' _ (x + 2 ^ s) (by omega) (by omega) ((f1.tr (g2.mono (fun _ _ _ q => S13_p q))).wr _ (by unfold SPt; omega)) (fun j hj => ?_) rd_eq (h3.yes hp)
        obtain ⟨y', y1', y2'⟩ := h1 j hj
        exact ⟨y', by rw [rd_j (by omega), hc]; exact y1', y2'⟩
      · rw [t1, if_pos (by decide)]
        exact no w2 g2 (fun t => t2 t.2)
    · rw [r1, if_pos (by decide)]
      exact no w1 (Fr.rf _ w1) (fun t => r2 t.1)
theorem m_rowsP (hA : CodeM w a C1) (hB : CodeM w b C2) (k1 : cok C1) (k2 : cok C2) (ha : a < 4) (hb : b < 4) :
    ∀ d k fuel w1, k + d = 30 → d < fuel → Fr SPt w w1 → (∀ j, j ≤ k → PB w1 C1 C2 j) → ∃ w', X7_layParts_L34 fuel (iI (a : Nat)) (iI (b : Nat)) (iI ((k + 1 : Nat) : Int)) w1 = some w' ∧ Fr SPt w w' ∧ (∀ j, j ≤ 30 → PB w' C1 C2 j) := by
  intro d
  induction d with
  | zero =>
    intro k fuel w1 hd hf f1 h1
    obtain ⟨f', rfl⟩ : ∃ f', fuel = f' + 1 := ⟨fuel - 1, by omega⟩
    rw [X7_layParts_L34, if_pos (yT (by omega) (by omega) (by omega))]
    exact ⟨w1, rfl, f1, fun j hj => h1 j (by omega)⟩
  | succ d ih =>
    intro k fuel w1 hd hf f1 h1
    obtain ⟨f', rfl⟩ : ∃ f', fuel = f' + 1 := ⟨fuel - 1, by omega⟩
    rw [X7_layParts_L34, if_neg (nT (by omega) (by omega) (by omega)), pa_n (by omega) (by decide)]
    obtain ⟨w2, e1, e2, e3⟩ := m_rowP hA hB k1 k2 ha hb (k := k) (by omega) (X7_layParts_L122 (X7_layParts_L34 f')) 30 0 1000 (wr w1 12 15 (k + 1) (iI 0)) 0 (by omega) (by omega) (f1.wr _ (by unfold SPt; omega)) (fun j hj => by
      obtain ⟨y, y1, y2⟩ := h1 j hj
      exact ⟨y, by rw [rd_j (by omega)]; exact y1, y2⟩) rd_eq (Bits.zero _)
    rw [show X7_layParts_L50 1000 (X7_layParts_L122 (X7_layParts_L34 f')) (iI (a : Nat)) (iI (b : Nat)) (iI ((k + 1 : Nat) : Int)) (iI 0) (wr w1 12 15 (k + 1) (iI 0)) = _ from e1]
    unfold X7_layParts_L122
    rw [bnd_e, iI_add]
    exact ih (k + 1) f' w2 (by omega) (by omega) e2 e3
theorem m_row0 (K : Int32 → Int32 → Wd → Option Wd) (v1 v2 : Int32) : ∀ d s fuel w1 (x : Nat), 1 ≤ s → s + d = 6 → d < fuel → Fr SPt w w1 → rd w1 12 15 0 = iI (x : Nat) → Bits x s pS → ∃ w' x', X7_layParts_L9 fuel K v1 v2 (iI (s : Nat)) w1 = K v1 v2 w' ∧ Fr SPt w w' ∧ rd w' 12 15 0 = iI (x' : Nat) ∧ Bits x' 6 pS := by
  intro d
  induction d with
  | zero =>
    intro s fuel w1 x h0 hd hf f1 h1 h2
    obtain ⟨f', rfl⟩ : ∃ f', fuel = f' + 1 := ⟨fuel - 1, by omega⟩
    obtain rfl : s = 6 := by omega
    rw [X7_layParts_L9, if_pos (by decide)]
    exact ⟨w1, x, rfl, f1, h1, h2⟩
  | succ d ih =>
    intro s fuel w1 x h0 hd hf f1 h1 h2
    obtain ⟨f', rfl⟩ : ∃ f', fuel = f' + 1 := ⟨fuel - 1, by omega⟩
    rw [X7_layParts_L9, if_neg (nT (by omega) (by omega) (by omega)), ga_e (k := 0) (by omega) (by omega) (by decide), h1, sh1 s (by omega), or_pow (by omega) h2.1, pa_e (k := 0) (by omega) (by omega) (by decide), bnd_e, iI_add]
    exact ih (s + 1) f' _ (x + 2 ^ s) (by omega) (by omega) (by omega) (f1.wr _ (by unfold SPt; omega)) rd_eq (h2.yes ⟨by omega, by omega⟩)
theorem m_layParts (hA : CodeM w a C1) (hB : CodeM w b C2) (k1 : cok C1) (k2 : cok C2) (ha : a < 4) (hb : b < 4) : ∃ w', X7_layParts w (iI (a : Nat)) (iI (b : Nat)) = some w' ∧ Fr SPt w w' ∧ (∀ j, j ≤ 30 → PB w' C1 C2 j) := by
  unfold X7_layParts
  rw [pa_e (k := 0) (by omega) (by omega) (by decide)]
  obtain ⟨w1, x, e1, e2, e3, e4⟩ := m_row0 (w := w) X7_layParts_L32 (iI (a : Nat)) (iI (b : Nat)) 5 1 1000 (wr w 12 15 0 (iI 0)) 0 (by omega) (by omega) (by omega) ((Fr.rf _ w).wr _ (by unfold SPt; omega)) rd_eq ((Bits.zero pS).no (fun t => t.2 rfl))
  rw [show X7_layParts_L9 1000 X7_layParts_L32 (iI (a : Nat)) (iI (b : Nat)) (iI 1) (wr w 12 15 0 (iI 0)) = _ from e1]
  unfold X7_layParts_L32
  exact m_rowsP hA hB k1 k2 ha hb 30 0 1000 w1 (by omega) (by omega) e2 (fun j hj => by
    obtain rfl : j = 0 := by omega
    exact ⟨x, e3, e4.ext 24 (fun s h1 h2 t => by have := t.1; omega)⟩)
theorem m_apL {w1 : Wd} (h : ∀ j, j ≤ 30 → PB w1 C1 C2 j) : ∀ d k fuel, k + d = 31 → d < fuel → (∀ j, j < k → ¬ RR C1 C2 j 0) → ∃ r : Int, X7_apartNow_L8 fuel X7_apartNow_L31 (iI (k : Nat)) w1 = some (iI r, w1) ∧ ((r = -1 ∧ ∀ j, j ≤ 30 → ¬ RR C1 C2 j 0) ∨ (∃ m : Nat, r = m ∧ m ≤ 30 ∧ RR C1 C2 m 0 ∧ ∀ j, j < m → ¬ RR C1 C2 j 0)) := by
  intro d
  induction d with
  | zero =>
    intro k fuel hd hf hn
    obtain ⟨f', rfl⟩ : ∃ f', fuel = f' + 1 := ⟨fuel - 1, by omega⟩
    obtain rfl : k = 31 := by omega
    rw [X7_apartNow_L8, if_pos (by decide)]
    unfold X7_apartNow_L31
    rw [if_pos (by decide)]
    exact ⟨-1, rfl, Or.inl ⟨rfl, fun j hj => hn j (by omega)⟩⟩
  | succ d ih =>
    intro k fuel hd hf hn
    obtain ⟨f', rfl⟩ : ∃ f', fuel = f' + 1 := ⟨fuel - 1, by omega⟩
    obtain ⟨x, x1, x2⟩ := h k (by omega)
    have b0 := x2.2 0 (by omega)
    rw [Nat.pow_zero, Nat.div_one] at b0
    have hx := x2.1
    rw [X7_apartNow_L8, if_neg (nT (by omega) (by omega) (by omega)), ga_n (by omega) (by decide), x1, and1 (by omega)]
    by_cases p : RR C1 C2 k 0
    · have := b0.mpr p
      rw [if_neg (nE0 (by omega) (by omega))]
      unfold X7_apartNow_L31
      rw [if_neg (nT (by omega) (by omega) (by omega))]
      exact ⟨k, rfl, Or.inr ⟨k, rfl, by omega, p, hn⟩⟩
    · have : ¬ x % 2 = 1 := fun t => p (b0.mp t)
      rw [if_pos (yE0 (by omega)), bnd_e, iI_add]
      exact ih (k + 1) f' (by omega) (by omega) (fun j hj => by
        by_cases z : j = k
        · rw [z]; exact p
        · exact hn j (by omega))
theorem m_apart (hA : CodeM w a C1) (hB : CodeM w b C2) (k1 : cok C1) (k2 : cok C2) (ha : a < 4) (hb : b < 4) : ∃ (r : Int) (w' : Wd), X7_apartNow w (iI (a : Nat)) (iI (b : Nat)) = some (iI r, w') ∧ Fr SPt w w' ∧ (∀ j, j ≤ 30 → PB w' C1 C2 j) ∧ ((r = -1 ∧ ∀ j, j ≤ 30 → ¬ RR C1 C2 j 0) ∨ (∃ m : Nat, r = m ∧ m ≤ 30 ∧ RR C1 C2 m 0 ∧ ∀ j, j < m → ¬ RR C1 C2 j 0)) := by
  unfold X7_apartNow
  obtain ⟨w1, e1, e2, e3⟩ := m_layParts hA hB k1 k2 ha hb
  rw [e1, ob_s]
  obtain ⟨r, g1, g2⟩ := m_apL e3 31 0 1000 (by omega) (by omega) (fun j hj => by omega)
  exact ⟨r, w1, g1, e2, e3, g2⟩
end PARTM
/-- what the first word says of the numbers of units -/
theorem Ans.least {C1 C2 : Cd} (k1 : cok C1) (k2 : cok C2) {n y : Nat} (h : Ans (dl C1 C2) n y) : RR C1 C2 n 0 ∧ ∀ j, j < n → ¬ RR C1 C2 j 0 := by
  obtain ⟨h1, ⟨s, h2, h3⟩, h4⟩ := h
  constructor
  · obtain ⟨s0, e1, e2⟩ := word_RR k1 k2 n 0 y s (by rw [Nat.zero_add]; exact h2) h3
    unfold ru at e1
    by_cases z : y / 8 ^ n = 1
    · rw [if_pos z] at e1; cases e1; exact e2
    · rw [if_neg z] at e1; cases e1
  · intro j hj r
    obtain ⟨z, s', e1, e2, -⟩ := RR_word j 0 1 0 rfl r
    rw [Nat.zero_add] at e1
    have a1 := h4 j z s' e1 e2
    obtain ⟨-, -, b1, b2⟩ := ru_v k1 k2 _ _ _ e1
    obtain ⟨-, -, c1, c2⟩ := ru_v k1 k2 _ _ _ h2
    have : 8 ^ (j + 1) ≤ 8 ^ n := Nat.pow_le_pow_right (by decide) (by omega)
    rw [Nat.pow_succ] at this
    omega

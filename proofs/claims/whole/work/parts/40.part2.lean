/-! apart: the class's answer. -/
section BFSX
variable {w : Wd} {g1 g2 : Nat} {C1 C2 : Cd}
theorem x_expand (c1 : CodeX w g1 C1) (c2 : CodeX w g2 C2) (k1 : cok C1) (k2 : cok C2) (hg1 : g1 < 5) (hg2 : g2 < 5) {h s : Nat} (hs : s < 30) :
    ∀ d u fuel w1 t q wd pi le, u + d = 8 → d < fuel → Fr SB w w1 → Bq w1 (dl C1 C2) t h u q wd pi le → h < t → q h = s → ∃ w' t' q' wd' pi' le', X4_expand_L3 fuel g1 g2 (iI (s : Nat)) (iI (u : Nat)) w1 = some w' ∧ Fr SB w w' ∧ Bq w' (dl C1 C2) t' h 8 q' wd' pi' le' ∧ h < t' ∧ q' h = s := by
  intro d
  induction d with
  | zero =>
    intro u fuel w1 t q wd pi le hd hf f1 B hh hq
    obtain ⟨f', rfl⟩ : ∃ f', fuel = f' + 1 := ⟨fuel - 1, by omega⟩
    obtain rfl : u = 8 := by omega
    rw [X4_expand_L3, if_pos (by decide)]
    exact ⟨w1, t, q, wd, pi, le, rfl, f1, B, hh, hq⟩
  | succ d ih =>
    intro u fuel w1 t q wd pi le hd hf f1 B hh hq
    obtain ⟨f', rfl⟩ : ∃ f', fuel = f' + 1 := ⟨fuel - 1, by omega⟩
    have cx1 : CodeX w1 g1 C1 := c1.fr (fun o j _ => f1.1 _ o j (by unfold SB; omega))
    have cx2 : CodeX w1 g2 C2 := c2.fr (fun o j _ => f1.1 _ o j (by unfold SB; omega))
    have hu : u < 8 := by omega
    rw [X4_expand_L3, if_neg (nL (by omega) (by omega) (by omega)), iI_div (by omega) (by omega) (by decide) (by decide), show ((s : Int) / 6) = ((s / 6 : Nat) : Int) by omega, x_nextMode cx1 k1 (by omega) hu, ob_s]
    simp only [bnd_e, iI_add]
    cases e1 : trc C1 (s / 6) u with
    | none =>
      rw [show oE (Option.map (fun q => q.1) (none : Option (Nat × Nat))) = iI (-1) from rfl, if_pos rfl]
      exact ih (u + 1) f' w1 t q wd pi le (by omega) (by omega) f1 (B.none (by rw [hq]; unfold dl; rw [e1])) hh hq
    | some q1 =>
      obtain ⟨a, b⟩ := q1
      obtain ⟨-, x1, -⟩ := trc_ok k1 hu e1
      have := ms_le C1
      have := ms_le C2
      rw [show oE (Option.map (fun q => q.1) (some (a, b))) = iI (a : Nat) from rfl, if_neg (nE (by omega) (by omega) (by omega)), iI_irm (by omega) (by omega) (by decide) (by decide), show ((s : Int) % 6) = ((s % 6 : Nat) : Int) by omega, x_nextMode cx2 k2 (by omega) hu, ob_s]
      have go : ∀ s', s' < 30 → dl C1 C2 s u = some s' → ∃ w' t' q' wd' pi' le', (ob (X4_reach w1 (iI (s' : Nat)) (iI (s : Nat)) (iI (u : Nat))) fun w_6 => X4_expand_L3 f' g1 g2 (iI (s : Nat)) (iI ((u : Int) + 1)) w_6) = some w' ∧ Fr SB w w' ∧ Bq w' (dl C1 C2) t' h 8 q' wd' pi' le' ∧ h < t' ∧ q' h = s := by
        intro s' h30 he
        obtain ⟨w2, t2, q2, wd2, pi2, le2, r1, r2, r3, r4, r5⟩ := x_reach B hh hu h30 (by rw [hq]; exact he)
        rw [hq] at r1
        rw [r1, ob_s]
        exact ih (u + 1) f' w2 t2 q2 wd2 pi2 le2 (by omega) (by omega) (f1.tr r2) r3 (by omega) (by rw [r5, hq])
      cases e2 : trc C2 (s % 6) u with
      | none =>
        have hd : dl C1 C2 s u = some (6 * a + 5) := by unfold dl; rw [e1]; dsimp only; rw [e2]
        rw [show oE (Option.map (fun q => q.1) (none : Option (Nat × Nat))) = iI (-1) from rfl, if_pos rfl, iI_mul, iI_add, show (a : Int) * 6 + 5 = ((6 * a + 5 : Nat) : Int) by omega]
        exact go _ (by omega) hd
      | some q2 =>
        obtain ⟨c, e⟩ := q2
        obtain ⟨-, x2, -⟩ := trc_ok k2 hu e2
        have hd : dl C1 C2 s u = some (6 * a + c) := by unfold dl; rw [e1]; dsimp only; rw [e2]
        rw [show oE (Option.map (fun q => q.1) (some (c, e))) = iI (c : Nat) from rfl, if_neg (nE (by omega) (by omega) (by omega)), iI_mul, iI_add, show (a : Int) * 6 + c = ((6 * a + c : Nat) : Int) by omega]
        exact go _ (by omega) hd
theorem x_count {D : Nat → Nat → Option Nat} {t h u : Nat} {q wd pi le : Nat → Nat} (B : Bq w D t h u q wd pi le) (K : Int32 → Int32 → Wd → Option Wd) (v : Int32) : ∀ d j c fuel, le j = d → j < t → c + d < 30 → d < fuel → X4_writeRow_L4 fuel K v (iI (c : Nat)) (iI (q j : Nat)) w = K v (iI ((c + d : Nat) : Int)) w := by
  obtain ⟨b1, b2, b3, b4, b5, b6, b7, b8, b9⟩ := B
  intro d
  induction d with
  | zero =>
    intro j c fuel hl hj hc hf
    obtain ⟨f', rfl⟩ : ∃ f', fuel = f' + 1 := ⟨fuel - 1, by omega⟩
    have hj0 : j = 0 := by
      rcases Nat.eq_zero_or_pos j with z | z
      · exact z
      · have := (b4 j z hj).2.2.2.2.1; omega
    subst hj0
    rw [X4_writeRow_L4, if_neg (nL (by omega) (by omega) (by omega)), b2.1, if_neg (nT0 (by omega) (by omega)), if_neg (nL (by omega) (by omega) (by omega)), ga_n (by omega) (by decide), b2.2.2.2, if_pos rfl]
    rfl
  | succ d ih =>
    intro j c fuel hl hj hc hf
    obtain ⟨f', rfl⟩ : ∃ f', fuel = f' + 1 := ⟨fuel - 1, by omega⟩
    have hj0 : 0 < j := by
      rcases Nat.eq_zero_or_pos j with z | z
      · rw [z, b2.2.2.1] at hl; omega
      · exact z
    obtain ⟨c1, c2, c3, c4, c5, c6⟩ := b4 j hj0 hj
    have hqj := (b3 j hj).2.1
    have hqp := (b3 (pi j) (by omega)).2.1
    rw [X4_writeRow_L4, if_neg (nL (by omega) (by omega) (by omega)), if_neg (nT0 (by omega) (by omega)), if_neg (nL (by omega) (by omega) (by omega)), ga_n hqj (by decide), c2, if_neg (nE (by omega) (by omega) (by omega)), bnd_e, ga_n hqj (by decide), c2, iI_add]
    have := ih (pi j) (c + 1) f' (by omega) (by omega) (by omega) (by omega)
    rw [show c + 1 + d = c + (d + 1) by omega] at this
    exact this
def SBr (g o j : Nat) : Prop := g = 10 ∧ (o = 4 ∨ (o = 0 ∧ j = 5))
theorem x_write {D : Nat → Nat → Option Nat} {t h u : Nat} {q wd pi le : Nat → Nat} (B : Bq w D t h u q wd pi le) {n : Nat} (hn : n < 30) : ∀ d j fuel w1, le j = d → j < t → d < 30 → d < fuel → Fr SBr w w1 → ∃ w', X4_writeRow_L50 fuel (iI (n : Nat)) (iI (q j : Nat)) (iI ((d : Int) - 1)) w1 = some w' ∧ Fr SBr w w' ∧ rd w' 10 0 5 = iI (n : Nat) ∧ (∀ i, i < d → rd w' 10 4 i = iI ((wd j / 8 ^ (d - 1 - i) % 8 : Nat) : Int)) ∧ (∀ i, d ≤ i → rd w' 10 4 i = rd w1 10 4 i) := by
  obtain ⟨b1, b2, b3, b4, b5, b6, b7, b8, b9⟩ := B
  intro d
  induction d with
  | zero =>
    intro j fuel w1 hl hj hd hf f1
    obtain ⟨f', rfl⟩ : ∃ f', fuel = f' + 1 := ⟨fuel - 1, by omega⟩
    rw [X4_writeRow_L50, if_pos (yT0 (by omega) (by omega)), bnd_e]
    exact ⟨_, rfl, f1.wr _ (by unfold SBr; omega), rd_eq, fun i hi => by omega, fun i hi => rd_o (by decide)⟩
  | succ d ih =>
    intro j fuel w1 hl hj hd hf f1
    obtain ⟨f', rfl⟩ : ∃ f', fuel = f' + 1 := ⟨fuel - 1, by omega⟩
    have hj0 : 0 < j := by
      rcases Nat.eq_zero_or_pos j with z | z
      · rw [z, b2.2.2.1] at hl; omega
      · exact z
    obtain ⟨c1, c2, c3, c4, c5, c6⟩ := b4 j hj0 hj
    have hqj := (b3 j hj).2.1
    have hqp := (b3 (pi j) (by omega)).2.1
    rw [X4_writeRow_L50, show ((d + 1 : Nat) : Int) - 1 = (d : Nat) by omega, if_neg (nT0 (by omega) (by omega)), if_neg (nT0 (by omega) (by omega)), if_neg (nL (by omega) (by omega) (by omega)), ga_n hqj (by decide), f1.1 10 3 _ (by unfold SBr; omega), c3, pa_n (by omega) (by decide), ga_n hqj (by decide), rd_o (by decide), f1.1 10 2 _ (by unfold SBr; omega), c2, bnd_e, iI_add, show (d : Int) + -1 = (d : Int) - 1 by omega]
    obtain ⟨w2, e1, e2, e3, e4, e5⟩ := ih (pi j) f' (wr w1 10 4 d (iI ((wd j % 8 : Nat) : Int))) (by omega) (by omega) (by omega) (by omega) (f1.wr _ (by unfold SBr; omega))
    refine ⟨w2, e1, e2, e3, fun i hi => ?_, fun i hi => ?_⟩
    · by_cases z : i = d
      · subst z
        rw [e5 i (Nat.le_refl _), rd_eq, show i + 1 - 1 - i = 0 by omega, Nat.pow_zero, Nat.div_one]
      · rw [e4 i (by omega), ← c4, Nat.div_div_eq_div_mul, show d + 1 - 1 - i = (d - 1 - i) + 1 by omega, Nat.pow_succ, Nat.mul_comm]
    · rw [e5 i (by omega), rd_j (by omega)]
/-- the answer of the search: the first word of all that part the two -/
def Ans (D : Nat → Nat → Option Nat) (n y : Nat) : Prop := n < 30 ∧ (∃ s, ru D n y = some s ∧ pS s) ∧ ∀ m z s', ru D m z = some s' → pS s' → y ≤ z
theorem x_parts {s : Nat} (hs : s < 30) : X4_parts (iI (s : Nat)) = 0 ↔ ¬ pS s := by
  have : ∀ s, s < 30 → (X4_parts (iI (s : Nat)) = 0 ↔ ¬ (s / 6 = 0 ∧ s % 6 ≠ 0)) := by decide
  exact this s hs
theorem x_searchL (c1 : CodeX w g1 C1) (c2 : CodeX w g2 C2) (k1 : cok C1) (k2 : cok C2) (hg1 : g1 < 5) (hg2 : g2 < 5) :
    ∀ d h fuel w1 t q wd pi le, h + d = 31 → d < fuel → Fr SB w w1 → Bq w1 (dl C1 C2) t h 0 q wd pi le → h ≤ t → ∃ r w', X4_search_L28 fuel g1 g2 (iI (h : Nat)) w1 = some (r, w') ∧ Fr SB w w' ∧ ((r = iI 0 ∧ ∀ n y s, ru (dl C1 C2) n y = some s → ¬ pS s) ∨ (r = iI 1 ∧ ∃ n y, Ans (dl C1 C2) n y ∧ rd w' 10 0 5 = iI (n : Nat) ∧ ∀ i, i < n → rd w' 10 4 i = iI ((y / 8 ^ (n - 1 - i) % 8 : Nat) : Int))) := by
  intro d
  induction d with
  | zero =>
    intro h fuel w1 t q wd pi le hd hf f1 B hh
    have := B.1; omega
  | succ d ih =>
    intro h fuel w1 t q wd pi le hd hf f1 B hh
    obtain ⟨f', rfl⟩ : ∃ f', fuel = f' + 1 := ⟨fuel - 1, by omega⟩
    have cv := B.cover
    obtain ⟨b1, b2, b3, b4, b5, b6, b7, b8, b9⟩ := id B
    rw [X4_search_L28, b1.2.2]
    by_cases z : t ≤ h
    · rw [if_pos (yL (by omega) (by omega) (by omega))]
      refine ⟨_, w1, rfl, f1, Or.inl ⟨rfl, fun n y s e => ?_⟩⟩
      rcases cv n y s e with ⟨j, j1, j2, -⟩ | ⟨j1, -⟩
      · rw [← j2]; exact b9 j (by omega)
      · omega
    · rw [if_neg (nL (by omega) (by omega) (by omega)), if_neg (nL (by omega) (by omega) (by omega)), ga_n (by omega) (by decide), (b3 h (by omega)).1]
      have hq := (b3 h (by omega)).2.1
      by_cases p : pS (q h)
      · rw [if_neg (fun t => (x_parts hq).mp t p)]
        have hle : le h < 30 := by have := (b3 h (by omega)).2.2.2; omega
        unfold X4_writeRow
        rw [show X4_writeRow_L4 1000 X4_writeRow_L43 (iI (q h : Nat)) (iI 0) (iI (q h : Nat)) w1 = _ from x_count B X4_writeRow_L43 (iI (q h : Nat)) (le h) h 0 1000 rfl (by omega) (by omega) (by omega)]
        unfold X4_writeRow_L43
        rw [iI_sub, bnd_e, show 0 + le h = le h by omega]
        obtain ⟨w2, e1, e2, e3, e4, e5⟩ := x_write B hle (le h) h 1000 w1 rfl (by omega) hle (by omega) (Fr.rf _ w1)
        rw [e1, ob_s]
        refine ⟨_, w2, rfl, f1.tr (e2.mono (fun g o j hh => hh.1)), Or.inr ⟨rfl, le h, wd h, ⟨hle, ⟨q h, (b3 h (by omega)).2.2.1, p⟩, fun m z s' e hp => ?_⟩, e3, e4⟩⟩
        rcases cv m z s' e with ⟨j, j1, j2, j3⟩ | ⟨-, j2⟩
        · rcases Nat.lt_or_ge j h with c | c
          · exact absurd (by rw [j2]; exact hp) (b9 j c)
          · rcases Nat.lt_or_ge h j with c2 | c2
            · have := b5 h j c2 j1; omega
            · have : h = j := by omega
              rw [this]; exact j3
        · exact j2
      · rw [if_pos ((x_parts hq).mpr p)]
        have cx1 : CodeX w1 g1 C1 := c1.fr (fun o j _ => f1.1 _ o j (by unfold SB; omega))
        have cx2 : CodeX w1 g2 C2 := c2.fr (fun o j _ => f1.1 _ o j (by unfold SB; omega))
        obtain ⟨w2, t2, q2, wd2, pi2, le2, e1, e2, e3, e4, e5⟩ := x_expand cx1 cx2 k1 k2 hg1 hg2 hq 8 0 1000 w1 t q wd pi le (by omega) (by omega) (Fr.rf _ w1) B (by omega) rfl
        unfold X4_expand
        rw [show X4_expand_L3 1000 g1 g2 (iI (q h : Nat)) (iI 0) w1 = _ from e1, ob_s, bnd_e, iI_add]
        exact ih (h + 1) f' w2 t2 q2 wd2 pi2 le2 (by omega) (by omega) (f1.tr e2) (e3.head (by rw [e5]; exact p)) (by omega)
theorem x_search (c1 : CodeX w g1 C1) (c2 : CodeX w g2 C2) (k1 : cok C1) (k2 : cok C2) (hg1 : g1 < 5) (hg2 : g2 < 5) : ∃ r w', X4_search w g1 g2 = some (r, w') ∧ Fr SB w w' ∧ ((r = iI 0 ∧ ∀ n y s, ru (dl C1 C2) n y = some s → ¬ pS s) ∨ (r = iI 1 ∧ ∃ n y, Ans (dl C1 C2) n y ∧ rd w' 10 0 5 = iI (n : Nat) ∧ ∀ i, i < n → rd w' 10 4 i = iI ((y / 8 ^ (n - 1 - i) % 8 : Nat) : Int))) := by
  unfold X4_search
  rw [bnd_e, bnd_e, bnd_e]
  have f1 : Fr SB w (wr (wr (wfill w 10 2 30 (iI (-2))) 10 0 4 (iI 0)) 10 0 5 (iI 0)) := by
    have f0 : Fr SB w (wfill w 10 2 30 (iI (-2))) := ⟨fun g o j q => by rw [rd_fill]; exact if_neg (fun z => q z.1), rfl⟩
    exact (f0.wr _ rfl).wr _ rfl
  have a2 : ∀ j, j < 30 → rd (wr (wr (wfill w 10 2 30 (iI (-2))) 10 0 4 (iI 0)) 10 0 5 (iI 0)) 10 2 j = iI (-2) := fun j hj => by rw [rd_o (by decide), rd_o (by decide), rd_fill, if_pos (by omega)]
  have a4 : rd (wr (wr (wfill w 10 2 30 (iI (-2))) 10 0 4 (iI 0)) 10 0 5 (iI 0)) 10 0 4 = iI 0 := by rw [rd_j (by decide), rd_eq]
  generalize wr (wr (wfill w 10 2 30 (iI (-2))) 10 0 4 (iI 0)) 10 0 5 (iI 0) = w0 at f1 a2 a4
  unfold X4_reach
  rw [if_neg (by decide), if_neg (by decide), ga_e (k := 0) (by omega) (by omega) (by decide), a2 0 (by omega), if_pos rfl, a4, if_neg (by decide), pa_e (k := 0) (by omega) (by omega) (by decide), pa_e (k := 0) (by omega) (by omega) (by decide), rd_o (by decide), rd_o (by decide), a4, pa_e (k := 0) (by omega) (by omega) (by decide), bnd_e, rd_o (by decide), rd_o (by decide), rd_o (by decide), a4, ob_s, iI_add]
  refine x_searchL c1 c2 k1 k2 hg1 hg2 31 0 1000 _ 1 (fun _ => 0) (fun _ => 1) (fun _ => 0) (fun _ => 0) (by omega) (by omega) ((((f1.wr _ rfl).wr _ rfl).wr _ rfl).wr _ rfl) ⟨⟨by omega, by omega, rd_eq⟩, ⟨rfl, rfl, rfl, by rw [rd_o (by decide), rd_o (by decide), rd_o (by decide), rd_eq]⟩, ?_, ?_, ?_, ?_, ?_, ?_, ?_⟩ (by omega)
  · intro j hj
    obtain rfl : j = 0 := by omega
    exact ⟨by rw [rd_o (by decide), rd_eq]; rfl, show (0 : Nat) < 30 by omega, rfl, Nat.le_refl _⟩
  · intro j h0 hj; omega
  · intro i j hij hj; omega
  · intro s hs hn
    have : s ≠ 0 := fun z => hn 0 (by omega) z.symm
    rw [rd_o (by decide), rd_o (by decide), rd_o (by decide), rd_j this]
    exact a2 s hs
  · intro i j hi hj _; omega
  · intro i v s' hi hv _; omega
  · intro i hi; omega
end BFSX

/-! tells, and both questions. -/
section TELL
variable {w : Wd} {a b : Nat} {C1 C2 : Cd}
theorem m_leastL (hA : CodeM w a C1) (hB : CodeM w b C2) (k1 : cok C1) (k2 : cok C2) (ha : a < 4) (hb : b < 4) {s x U s' : Nat} (hs : s < 30) (hv : vS C1 C2 s) {P : Nat → Prop} (hx : Bits x 30 P) (hU : U < 8) (e : dl C1 C2 s U = some s') (p : P s') (hn : ∀ v, v < U → ∀ s2, dl C1 C2 s v = some s2 → ¬ P s2) :
    ∀ d u fuel w1, u + d = U → d < fuel → Fr S13 w w1 → ∃ w', X7_leastTo_L14 fuel (iI (a : Nat)) (iI (b : Nat)) (iI (s : Nat)) (iI (x : Nat)) (iI (u : Nat)) (oE (dl C1 C2 s u)) w1 = some (iI (U : Nat), w') ∧ Fr S13 w w' := by
  have hx1 := hx.1
  intro d
  induction d with
  | zero =>
    intro u fuel w1 hd hf f1
    obtain ⟨f', rfl⟩ : ∃ f', fuel = f' + 1 := ⟨fuel - 1, by omega⟩
    obtain rfl : u = U := by omega
    have d1 := (dl_ok k1 k2 hU e).1
    have gb := getb0 (x := x) (s := s') (by omega) d1
    rw [hx.2 s' d1] at gb
    rw [e, X7_leastTo_L14, show oE (some s') = iI (s' : Nat) from rfl, if_neg (nE (by omega) (by omega) (by omega)), if_neg (fun t => gb.mp t p)]
    exact ⟨w1, rfl, f1⟩
  | succ d ih =>
    intro u fuel w1 hd hf f1
    obtain ⟨f', rfl⟩ : ∃ f', fuel = f' + 1 := ⟨fuel - 1, by omega⟩
    obtain ⟨w2, g1, g2⟩ := m_both (S13_code f1 hA) (S13_code f1 hB) k1 k2 ha hb hs hv (show u + 1 < 8 by omega)
    have go := ih (u + 1) f' w2 (by omega) (by omega) (f1.tr g2)
    rw [X7_leastTo_L14]
    simp only [bnd_e, iI_add]
    rw [show (u : Int) + 1 = ((u + 1 : Nat) : Int) by omega, g1, bI_s]
    cases ed : dl C1 C2 s u with
    | none =>
      rw [show oE none = iI (-1) from rfl, if_pos rfl]
      exact go
    | some s2 =>
      have d1 := (dl_ok k1 k2 (show u < 8 by omega) ed).1
      have gb := getb0 (x := x) (s := s2) (by omega) d1
      rw [hx.2 s2 d1] at gb
      rw [show oE (some s2) = iI (s2 : Nat) from rfl, if_neg (nE (by omega) (by omega) (by omega)), if_pos (gb.mpr (hn u (by omega) s2 ed))]
      exact go
theorem m_least (hA : CodeM w a C1) (hB : CodeM w b C2) (k1 : cok C1) (k2 : cok C2) (ha : a < 4) (hb : b < 4) {s x U s' : Nat} (hs : s < 30) (hv : vS C1 C2 s) {P : Nat → Prop} (hx : Bits x 30 P) (hU : U < 8) (e : dl C1 C2 s U = some s') (p : P s') (hn : ∀ v, v < U → ∀ s2, dl C1 C2 s v = some s2 → ¬ P s2) : ∃ w', X7_leastTo w (iI (a : Nat)) (iI (b : Nat)) (iI (s : Nat)) (iI (x : Nat)) = some (iI (U : Nat), w') ∧ Fr S13 w w' := by
  unfold X7_leastTo
  obtain ⟨w1, g1, g2⟩ := m_both hA hB k1 k2 ha hb hs hv (show 0 < 8 by omega)
  rw [show X7_bothBehind w (iI (a : Nat)) (iI (b : Nat)) (iI (s : Nat)) (iI 0) = _ from g1, bI_s]
  exact m_leastL hA hB k1 k2 ha hb hs hv hx hU e p hn U 0 1000 w1 (by omega) (by omega) g2
theorem m_tellL (hA : CodeM w a C1) (hB : CodeM w b C2) (k1 : cok C1) (k2 : cok C2) (ha : a < 4) (hb : b < 4) (hP : ∀ j, j ≤ 30 → PB w C1 C2 j) {n y i : Nat} (hA' : Ans (dl C1 C2) n y) (hi : i < n) :
    ∀ d j fuel w1 s b6, j + d = i + 1 → d < fuel → Fr S13 w w1 → ru (dl C1 C2) j (y / 8 ^ (n - j)) = some s → (0 < j → b6 = iI ((y / 8 ^ (n - 1 - (j - 1)) % 8 : Nat) : Int)) → (d = 0 → 0 < j) → ∃ w', X7_tellsNow_L32 fuel (iI (a : Nat)) (iI (b : Nat)) (iI (i : Nat)) (iI (n : Nat)) (iI (s : Nat)) b6 (iI (j : Nat)) w1 = some (iI ((y / 8 ^ (n - 1 - i) % 8 : Nat) : Int), w') ∧ Fr S13 w w' := by
  obtain ⟨h1, ⟨sE', h2, h3⟩, h4⟩ := hA'
  intro d
  induction d with
  | zero =>
    intro j fuel w1 s b6 hd hf f1 hr h6 h0
    obtain ⟨f', rfl⟩ : ∃ f', fuel = f' + 1 := ⟨fuel - 1, by omega⟩
    rw [X7_tellsNow_L32, if_pos (yT (by omega) (by omega) (by omega)), h6 (by omega), show j - 1 = i by omega]
    exact ⟨w1, rfl, f1⟩
  | succ d ih =>
    intro j fuel w1 s b6 hd hf f1 hr h6 h0
    obtain ⟨f', rfl⟩ : ∃ f', fuel = f' + 1 := ⟨fuel - 1, by omega⟩
    have hjn : j < n := by omega
    obtain ⟨hv, hs, -, -⟩ := ru_v k1 k2 _ _ _ hr
    have hy8 : y / 8 ^ (n - 1 - j) / 8 = y / 8 ^ (n - j) := by
      rw [Nat.div_div_eq_div_mul, ← Nat.pow_succ, show (n - 1 - j).succ = n - j by omega]
    obtain ⟨s1, r1, r2⟩ := word_RR k1 k2 (n - 1 - j) (j + 1) y sE' (by rw [show j + 1 + (n - 1 - j) = n by omega]; exact h2) h3
    have r1' := r1
    unfold ru at r1'
    rw [hy8, hr] at r1'
    dsimp only at r1'
    obtain ⟨x, x1, x2⟩ := hP (n - 1 - j) (by omega)
    have hU : y / 8 ^ (n - 1 - j) % 8 < 8 := Nat.mod_lt _ (by decide)
    obtain ⟨w2, l1, l2⟩ := m_least (S13_code f1 hA) (S13_code f1 hB) k1 k2 ha hb hs hv x2 hU r1' r2 (fun v hvU s2 e2 p2 => by
      have e3 : ru (dl C1 C2) (j + 1) (8 * (y / 8 ^ (n - j)) + v) = some s2 := by
        show (match ru (dl C1 C2) j ((8 * (y / 8 ^ (n - j)) + v) / 8) with | none => none | some s => dl C1 C2 s ((8 * (y / 8 ^ (n - j)) + v) % 8)) = _
        rw [show (8 * (y / 8 ^ (n - j)) + v) / 8 = y / 8 ^ (n - j) by omega, show (8 * (y / 8 ^ (n - j)) + v) % 8 = v by omega, hr]
        exact e2
      obtain ⟨z, z', q1, q2, q3⟩ := RR_word (n - 1 - j) (j + 1) _ s2 e3 p2
      rw [show j + 1 + (n - 1 - j) = n by omega] at q1
      have hyz := h4 n z z' q1 q2
      have : y / 8 ^ (n - 1 - j) ≤ z / 8 ^ (n - 1 - j) := Nat.div_le_div_right hyz
      rw [q3] at this
      have hm := Nat.div_add_mod (y / 8 ^ (n - 1 - j)) 8
      rw [hy8] at hm
      omega)
    obtain ⟨w3, g1, g2⟩ := m_both (S13_code (f1.tr l2) hA) (S13_code (f1.tr l2) hB) k1 k2 ha hb hs hv hU
    rw [X7_tellsNow_L32, if_neg (nT (by omega) (by omega) (by omega)), iI_sub, iI_sub, ga_e (k := n - 1 - j) (by omega) (by omega) (by decide), f1.1 _ _ _ (by unfold S13; omega), x1, l1, bI_s, g1, bI_s, bnd_e, iI_add, r1', show oE (some s1) = iI (s1 : Nat) from rfl]
    exact ih (j + 1) f' w3 s1 _ (by omega) (by omega) ((f1.tr l2).tr g2) (by rw [show n - (j + 1) = n - 1 - j by omega]; exact r1) (fun _ => rfl) (fun _ => by omega)
end TELL
/-- both searches, one behind the other -/
theorem both_apart {w : Wd} {pl cm ln n : Nat} {us pg : Nat → Nat} {C : Nat → Cd} (hR : RelA w pl cm ln n us pg C) {a b : Nat} (ha : a < n) (hb : b < n) : ∃ r w1 w2, X4_search w (a + 1) (b + 1) = some (r, w1) ∧ RelA w1 pl cm ln n us pg C ∧ RelA w2 pl cm ln n us pg C ∧ w1.2 = w.2 ∧ w2.2 = w.2 ∧ (∀ j, j ≤ 30 → PB w2 (C a) (C b) j) ∧ ((r = iI 0 ∧ X7_apartNow w1 (iI (a : Nat)) (iI (b : Nat)) = some (iI (-1), w2)) ∨ (r = iI 1 ∧ ∃ k y, Ans (dl (C a) (C b)) k y ∧ rd w1 10 0 5 = iI (k : Nat) ∧ (∀ i, i < k → rd w1 10 4 i = iI ((y / 8 ^ (k - 1 - i) % 8 : Nat) : Int)) ∧ X7_apartNow w1 (iI (a : Nat)) (iI (b : Nat)) = some (iI (k : Nat), w2))) := by
  have hn := hR.2.2.2.1.1
  obtain ⟨ka, xa, -⟩ := hR.2.2.2.1.2.2.2 a ha
  obtain ⟨kb, xb, -⟩ := hR.2.2.2.1.2.2.2 b hb
  obtain ⟨r, w1, e1, e2, e3⟩ := x_search xa xb ka kb (by omega) (by omega)
  have hR1 := hR.fr (scX_sc (e2.mono (fun g o j hh => (show ScX g o j by unfold SB at hh; unfold ScX; omega))))
  obtain ⟨-, -, ma⟩ := hR1.2.2.2.1.2.2.2 a ha
  obtain ⟨-, -, mb⟩ := hR1.2.2.2.1.2.2.2 b hb
  obtain ⟨s, w2, g1, g2, g3, g4⟩ := m_apart ma mb ka kb (by omega) (by omega)
  refine ⟨r, w1, w2, e1, hR1, hR1.fr (scM_sc (g2.mono (fun _ _ _ q => SPt_m q))), e2.2, g2.2.trans e2.2, g3, ?_⟩
  rcases e3 with ⟨r1, r2⟩ | ⟨r1, k, y, r2, r3, r4⟩
  · refine Or.inl ⟨r1, ?_⟩
    rcases g4 with ⟨s1, -⟩ | ⟨m, s1, s2, s3, s4⟩
    · rw [g1, s1]
    · obtain ⟨z, s', q1, q2, -⟩ := RR_word m 0 1 0 rfl s3
      exact absurd q2 (r2 _ _ _ q1)
  · refine Or.inr ⟨r1, k, y, r2, r3, r4, ?_⟩
    obtain ⟨l1, l2⟩ := r2.least ka kb
    have hk := r2.1
    rcases g4 with ⟨s1, s2⟩ | ⟨m, s1, s2, s3, s4⟩
    · exact absurd l1 (s2 k (by omega))
    · have : m = k := by
        rcases Nat.lt_trichotomy m k with c | c | c
        · exact absurd s3 (l2 m c)
        · exact c
        · exact absurd l1 (s4 k c)
      rw [g1, s1, this]
theorem op_apart {w : Wd} (h : Rel w) (x y : Int32) : ∃ r w1 w2, X6_apart w x y = some (r, w1) ∧ X7_apart w1 x y = some (r, w2) ∧ Rel w2 := by
  obtain ⟨pl, cm, ln, n, us, pg, C, hR⟩ := id h
  obtain ⟨z, hz, rfl⟩ := iI_ex x
  obtain ⟨v, hv, rfl⟩ := iI_ex y
  have hn := hR.2.2.2.1.1
  unfold X6_apart X7_apart
  by_cases o1 : 0 ≤ z ∧ z < n
  · by_cases o2 : 0 ≤ v ∧ v < n
    · obtain ⟨a, rfl⟩ : ∃ c : Nat, z = c := ⟨z.toNat, by omega⟩
      obtain ⟨b, rfl⟩ : ∃ c : Nat, v = c := ⟨v.toNat, by omega⟩
      obtain ⟨r, w1, w2, e1, e2, e3, -, -, -, e4⟩ := both_apart hR (a := a) (b := b) (by omega) (by omega)
      rw [if_neg (fun q => (hR.xc.isCode hz).mp q o1), if_neg (fun q => (hR.xc.isCode hv).mp q o2), ix_n (by omega) (by decide), ix_n (by omega) (by decide), e1, bI_s]
      have hm : ∀ s, X7_apartNow w1 (iI (a : Nat)) (iI (b : Nat)) = some (s, w2) → (if X7_isCode w1 (iI (a : Nat)) = 0 then some (iI (-101), w1) else if X7_isCode w1 (iI (b : Nat)) = 0 then some (iI (-101), w1) else bI (X7_apartNow w1 (iI (a : Nat)) (iI (b : Nat))) fun r_1 w_2 => some (r_1, w_2)) = some (s, w2) := by
        intro s hs
        rw [if_neg (fun q => (e2.mc.isCode hz).mp q o1), if_neg (fun q => (e2.mc.isCode hv).mp q o2), hs, bI_s]
      rcases e4 with ⟨r1, r2⟩ | ⟨r1, k, y, r2, r3, r4, r5⟩
      · exact ⟨_, w1, w2, by rw [r1, if_pos (show iI 0 = 0 from rfl)], hm _ r2, pl, cm, ln, n, us, pg, C, e3⟩
      · exact ⟨_, w1, w2, by rw [r1, if_neg (by decide)]; unfold X4_rowLength; rw [r3], hm _ r5, pl, cm, ln, n, us, pg, C, e3⟩
    · exact ⟨_, w, w, by rw [if_neg (fun q => (hR.xc.isCode hz).mp q o1), if_pos ((hR.xc.isCode hv).mpr o2)], by rw [if_neg (fun q => (hR.mc.isCode hz).mp q o1), if_pos ((hR.mc.isCode hv).mpr o2)], h⟩
  · exact ⟨_, w, w, by rw [if_pos ((hR.xc.isCode hz).mpr o1)], by rw [if_pos ((hR.mc.isCode hz).mpr o1)], h⟩
theorem op_tells {w : Wd} (h : Rel w) (x y t : Int32) : ∃ r w1 w2, X6_tells w x y t = some (r, w1) ∧ X7_tells w1 x y t = some (r, w2) ∧ Rel w2 := by
  obtain ⟨pl, cm, ln, n, us, pg, C, hR⟩ := id h
  obtain ⟨z, hz, rfl⟩ := iI_ex x
  obtain ⟨v, hv, rfl⟩ := iI_ex y
  obtain ⟨g, hg, rfl⟩ := iI_ex t
  have hn := hR.2.2.2.1.1
  unfold X6_tells X7_tells X7_tellsNow
  by_cases o1 : 0 ≤ z ∧ z < n
  · by_cases o2 : 0 ≤ v ∧ v < n
    · obtain ⟨a, rfl⟩ : ∃ c : Nat, z = c := ⟨z.toNat, by omega⟩
      obtain ⟨b, rfl⟩ : ∃ c : Nat, v = c := ⟨v.toNat, by omega⟩
      obtain ⟨r, w1, w2, e1, e2, e3, -, -, eP, e4⟩ := both_apart hR (a := a) (b := b) (by omega) (by omega)
      rw [if_neg (fun q => (hR.xc.isCode hz).mp q o1), if_neg (fun q => (hR.xc.isCode hv).mp q o2), ix_n (by omega) (by decide), ix_n (by omega) (by decide), e1, bI_s]
      have m1 := fun q => (e2.mc.isCode hz).mp q o1
      have m2 := fun q => (e2.mc.isCode hv).mp q o2
      rcases e4 with ⟨r1, r2⟩ | ⟨r1, k, y, r2, r3, r4, r5⟩
      · have wi := wi_iff (a := g) (b := 0) (c := -1 - 1) hg (by decide) (by decide)
        exact ⟨_, w1, w2, by rw [r1, if_pos (show iI 0 = 0 from rfl)], by rw [if_neg m1, if_neg m2, r2, bI_s, iI_sub, if_pos (wi.mpr (by omega)), bI_s], pl, cm, ln, n, us, pg, C, e3⟩
      · have hk := r2.1
        have wi := wi_iff (a := g) (b := 0) (c := (k : Int) - 1) hg (by decide) (by omega)
        rw [r1, if_neg (by decide)]
        unfold X4_rowLength
        rw [r3]
        by_cases q1 : g < 0
        · exact ⟨_, w1, w2, by rw [if_pos (yT0 q1 hg)], by rw [if_neg m1, if_neg m2, r5, bI_s, iI_sub, if_pos (wi.mpr (by omega)), bI_s], pl, cm, ln, n, us, pg, C, e3⟩
        · by_cases q2 : g < k
          · obtain ⟨i, rfl⟩ : ∃ c : Nat, g = c := ⟨g.toNat, by omega⟩
            obtain ⟨ka, -, ma⟩ := e3.2.2.2.1.2.2.2 a (by omega)
            obtain ⟨kb, -, mb⟩ := e3.2.2.2.1.2.2.2 b (by omega)
            obtain ⟨hr1, ⟨sE', hr2, hr3⟩, hr4⟩ := id r2
            have hz0 : ru (dl (C a) (C b)) 0 (y / 8 ^ (k - 0)) = some 0 := by
              obtain ⟨s0, q1, q2⟩ := word_RR ka kb k 0 y sE' (by rw [Nat.zero_add]; exact hr2) hr3
              unfold ru at q1
              by_cases z : y / 8 ^ k = 1
              · show (if y / 8 ^ (k - 0) = 1 then some 0 else none) = some 0
                rw [Nat.sub_zero, if_pos z]
              · rw [if_neg z] at q1; cases q1
            obtain ⟨w3, t1, t2⟩ := m_tellL ma mb ka kb (by omega) (by omega) eP r2 (show i < k by omega) (i + 1) 0 1000 w2 0 (iI 0) (by omega) (by omega) (Fr.rf _ w2) hz0 (fun q => by omega) (fun q => by omega)
            refine ⟨iI ((y / 8 ^ (k - 1 - i) % 8 : Nat) : Int), w1, w3, ?_, ?_, pl, cm, ln, n, us, pg, C, e3.fr (scM_sc (t2.mono (fun _ _ _ q => SPt_m (S13_p q))))⟩
            · rw [if_neg (nT0 (by omega) hg), if_pos (yT q2 hg (by omega))]
              unfold X4_rowUnit
              rw [r3, if_neg (nT0 (by omega) hg), if_neg (nL (by omega) (by omega) hg), if_neg (nL (by omega) (by omega) hg), ga_n (by omega) (by decide), r4 i (by omega), ob_s]
            · rw [if_neg m1, if_neg m2, r5, bI_s, iI_sub, if_neg (fun q => wi.mp q (by omega))]
              rw [show X7_tellsNow_L32 1000 (iI (a : Nat)) (iI (b : Nat)) (iI (i : Nat)) (iI (k : Nat)) (iI 0) (iI 0) (iI 0) w2 = _ from t1, bI_s]
          · exact ⟨_, w1, w2, by rw [if_neg (nT0 (by omega) hg), if_neg (nT (by omega) hg (by omega))], by rw [if_neg m1, if_neg m2, r5, bI_s, iI_sub, if_pos (wi.mpr (by omega)), bI_s], pl, cm, ln, n, us, pg, C, e3⟩
    · exact ⟨_, w, w, by rw [if_neg (fun q => (hR.xc.isCode hz).mp q o1), if_pos ((hR.xc.isCode hv).mpr o2)], by rw [if_neg (fun q => (hR.mc.isCode hz).mp q o1), if_pos ((hR.mc.isCode hv).mpr o2)], h⟩
  · exact ⟨_, w, w, by rw [if_pos ((hR.xc.isCode hz).mpr o1)], by rw [if_pos ((hR.mc.isCode hz).mpr o1)], h⟩

/-! about, count -/
def abV (sv : Nat → Int) (C : Nat → Cd) (us : Nat → Nat) (cm n c k : Nat) : Int :=
  if k = 0 then ((C c).1 : Nat) else if k = 1 then (if (rn (C c) us cm).1 = true then 1 else 0) else if k = 2 then (if rVal (rn (C c) us cm) = true then 1 else 0)
  else if k = 3 then ((rn (C c) us cm).2.2.2.1 : Nat) else if k = 4 then ((rn (C c) us cm).2.2.2.2.1 : Nat) else if k = 5 then (if (rn (C c) us cm).1 = true then -1 else ((rn (C c) us cm).2.1 : Nat))
  else if k = 6 then sv c else (posOf (kyF us C cm) n c : Nat)
theorem pos_s (p : Nat → Bool) (k : Nat) : pos p (k + 1) = pos p k + (if p k = true then 1 else 0) := rfl
section ABOUT
variable {w : Wd} {cm ln n : Nat} {us : Nat → Nat} {C : Nat → Cd} {sv : Nat → Int}
theorem XC.about (h : XC w cm ln n us C) {c k : Nat} (hc : c < n) (hk : k < 8) (hs : FS (goodN C us cm ln n c) ln (sv c)) : ∃ w', X6_about w (iI (c : Nat)) (iI (k : Nat)) = some (iI (abV sv C us cm n c k), w') ∧ Fr ScX w w' := by
  obtain ⟨h1, h2, h3, h4, h5, h6, h7, h8, h9⟩ := id h
  obtain ⟨ok, cx, r1, r2, r3, r4, r5⟩ := h9 c hc
  unfold X6_about abV
  rw [if_neg (fun q => (h.isCode (by omega)).mp q (by omega)), ix_n (by omega) (by decide), ix_n (by omega) (by decide), h.alive hc, h.valid hc, h.weight hc, h.place hc]
  simp only [ob_s]
  by_cases k0 : k = 0
  · subst k0
    rw [if_pos (show iI ((0 : Nat) : Int) = iI 0 from rfl)]
    unfold X0_kind
    rw [cx.2.1]
    exact ⟨w, rfl, Fr.rf _ w⟩
  rw [if_neg (nE (by omega) (by omega) (by omega)), if_neg k0]
  by_cases k1 : k = 1
  · subst k1
    rw [if_pos (show iI ((1 : Nat) : Int) = iI 1 from rfl), if_pos rfl]
    cases (rn (C c) us cm).1 with
    | true => exact ⟨w, rfl, Fr.rf _ w⟩
    | false => exact ⟨w, rfl, Fr.rf _ w⟩
  rw [if_neg (nE (by omega) (by omega) (by omega)), if_neg k1]
  by_cases k2 : k = 2
  · subst k2
    rw [if_pos (show iI ((2 : Nat) : Int) = iI 2 from rfl), if_pos rfl]
    cases rVal (rn (C c) us cm) with
    | true => exact ⟨w, rfl, Fr.rf _ w⟩
    | false => exact ⟨w, rfl, Fr.rf _ w⟩
  rw [if_neg (nE (by omega) (by omega) (by omega)), if_neg k2]
  by_cases k3 : k = 3
  · subst k3
    rw [if_pos (show iI ((3 : Nat) : Int) = iI 3 from rfl), if_pos rfl]
    unfold X5_signCount
    rw [r3]
    exact ⟨w, rfl, Fr.rf _ w⟩
  rw [if_neg (nE (by omega) (by omega) (by omega)), if_neg k3]
  by_cases k4 : k = 4
  · subst k4
    rw [if_pos (show iI ((4 : Nat) : Int) = iI 4 from rfl), if_pos rfl]
    exact ⟨w, rfl, Fr.rf _ w⟩
  rw [if_neg (nE (by omega) (by omega) (by omega)), if_neg k4]
  by_cases k5 : k = 5
  · subst k5
    rw [if_pos (show iI ((5 : Nat) : Int) = iI 5 from rfl), if_pos rfl]
    unfold X5_allowedUnits
    rw [r4]
    cases (rn (C c) us cm).1 with
    | true => exact ⟨w, rfl, Fr.rf _ w⟩
    | false => exact ⟨w, rfl, Fr.rf _ w⟩
  rw [if_neg (nE (by omega) (by omega) (by omega)), if_neg k5]
  by_cases k6 : k = 6
  · subst k6
    obtain ⟨r, w1, e1, e2, e3⟩ := h.firstSure hc
    rw [if_pos (show iI ((6 : Nat) : Int) = iI 6 from rfl), if_pos rfl, e1, bI_s, e3.uniq hs]
    exact ⟨w1, rfl, e2.mono (fun _ _ _ q => SO_x q)⟩
  rw [if_neg (nE (by omega) (by omega) (by omega)), if_neg k6, if_pos (yE (by omega))]
  exact ⟨w, rfl, Fr.rf _ w⟩
theorem MC.about (h : MC w cm ln n us C) {c k : Nat} (hc : c < n) (hk : k < 8) (hs : FS (goodN C us cm ln n c) ln (sv c)) : ∃ w', X7_aboutNow w (iI (c : Nat)) (iI (k : Nat)) = some (iI (abV sv C us cm n c k), w') ∧ Fr ScM w w' := by
  obtain ⟨h1, h2, h3, h4, h5, h6, h7, h8, h9⟩ := id h
  obtain ⟨ok, cM⟩ := h9 c hc
  have bd := h.bd hc
  unfold X7_aboutNow abV
  by_cases k0 : k = 0
  · subst k0
    rw [if_pos (show iI ((0 : Nat) : Int) = iI 0 from rfl), ga_n (by omega) (by decide), cM.1]
    exact ⟨w, rfl, Fr.rf _ w⟩
  rw [if_neg (nE (by omega) (by omega) (by omega)), if_neg k0]
  by_cases k1 : k = 1
  · subst k1
    obtain ⟨w1, e1, e2, -⟩ := h.alive hc
    rw [if_pos (show iI ((1 : Nat) : Int) = iI 1 from rfl), if_pos rfl, e1, bI_s]
    cases (rn (C c) us cm).1 with
    | true => exact ⟨w1, rfl, e2⟩
    | false => exact ⟨w1, rfl, e2⟩
  rw [if_neg (nE (by omega) (by omega) (by omega)), if_neg k1]
  by_cases k2 : k = 2
  · subst k2
    obtain ⟨w1, e1, e2, -⟩ := h.valid hc
    rw [if_pos (show iI ((2 : Nat) : Int) = iI 2 from rfl), if_pos rfl, e1, bI_s]
    cases rVal (rn (C c) us cm) with
    | true => exact ⟨w1, rfl, e2⟩
    | false => exact ⟨w1, rfl, e2⟩
  rw [if_neg (nE (by omega) (by omega) (by omega)), if_neg k2]
  obtain ⟨w1, e1, e2, e3⟩ := h.along hc
  by_cases k3 : k = 3
  · subst k3
    rw [if_pos (show iI ((3 : Nat) : Int) = iI 3 from rfl), if_pos rfl]
    unfold X7_signsOf
    rw [e1, ob_s, bI_s, e2.2.2.1]
    exact ⟨w1, rfl, e3⟩
  rw [if_neg (nE (by omega) (by omega) (by omega)), if_neg k3]
  by_cases k4 : k = 4
  · subst k4
    rw [if_pos (show iI ((4 : Nat) : Int) = iI 4 from rfl), if_pos rfl]
    unfold X7_weightOf
    rw [e1, ob_s, bI_s, e2.2.2.2.1]
    exact ⟨w1, rfl, e3⟩
  rw [if_neg (nE (by omega) (by omega) (by omega)), if_neg k4]
  by_cases k5 : k = 5
  · subst k5
    rw [if_pos (show iI ((5 : Nat) : Int) = iI 5 from rfl), if_pos rfl]
    unfold X7_firstBad
    rw [e1, ob_s, e2.1, e2.2.2.2.2.1]
    cases ea : (rn (C c) us cm).1 with
    | true =>
      rw [if_pos rfl, if_neg (nE (by omega) (by omega) (by omega)), bI_s]
      exact ⟨w1, rfl, e3⟩
    | false =>
      rw [if_neg (show ¬ false = true by decide), if_pos rfl, bI_s]
      exact ⟨w1, rfl, e3⟩
  rw [if_neg (nE (by omega) (by omega) (by omega)), if_neg k5]
  by_cases k6 : k = 6
  · subst k6
    obtain ⟨r, w1, e1, e2, e3⟩ := h.sureAt hc
    rw [if_pos (show iI ((6 : Nat) : Int) = iI 6 from rfl), if_pos rfl, e1, bI_s, e3.uniq hs]
    exact ⟨w1, rfl, e2⟩
  rw [if_neg (nE (by omega) (by omega) (by omega)), if_neg k6]
  obtain ⟨w1, e1, e2⟩ := h.rankOf hc
  rw [e1, bI_s]
  exact ⟨w1, rfl, e2⟩
theorem XC.aliveL (h : XC w cm ln n us C) : ∀ d k fuel, k + d = n → d < fuel → X6_aliveCodes_L4 fuel (iI (pos (fun c => (rn (C c) us cm).1) k : Nat)) (iI (k : Nat)) w = some (iI (pos (fun c => (rn (C c) us cm).1) n : Nat)) := by
  have hn := h.1
  have h5 := h.2.2.2.2.1
  intro d
  induction d with
  | zero =>
    intro k fuel hd hf
    obtain ⟨f', rfl⟩ : ∃ f', fuel = f' + 1 := ⟨fuel - 1, by omega⟩
    obtain rfl : k = n := by omega
    rw [X6_aliveCodes_L4, h5, if_pos (yL (by omega) (by omega) (by omega))]
  | succ d ih =>
    intro k fuel hd hf
    obtain ⟨f', rfl⟩ : ∃ f', fuel = f' + 1 := ⟨fuel - 1, by omega⟩
    have := ih (k + 1) f' (by omega) (by omega)
    rw [X6_aliveCodes_L4, h5, if_neg (nL (by omega) (by omega) (by omega)), ix_n (by omega) (by decide), h.alive (by omega), ob_s]
    simp only [bE0, bnd_e, iI_add]
    rw [pos_s] at this
    by_cases e : (rn (C k) us cm).1 = true
    · rw [if_neg (by simp [e])]
      rw [if_pos e] at this
      exact this
    · rw [if_pos e]
      rw [if_neg e] at this
      exact this
theorem XC.validL (h : XC w cm ln n us C) : ∀ d k fuel, k + d = n → d < fuel → X6_validCodes_L4 fuel (iI (pos (fun c => rVal (rn (C c) us cm)) k : Nat)) (iI (k : Nat)) w = some (iI (pos (fun c => rVal (rn (C c) us cm)) n : Nat)) := by
  have hn := h.1
  have h5 := h.2.2.2.2.1
  intro d
  induction d with
  | zero =>
    intro k fuel hd hf
    obtain ⟨f', rfl⟩ : ∃ f', fuel = f' + 1 := ⟨fuel - 1, by omega⟩
    obtain rfl : k = n := by omega
    rw [X6_validCodes_L4, h5, if_pos (yL (by omega) (by omega) (by omega))]
  | succ d ih =>
    intro k fuel hd hf
    obtain ⟨f', rfl⟩ : ∃ f', fuel = f' + 1 := ⟨fuel - 1, by omega⟩
    have := ih (k + 1) f' (by omega) (by omega)
    rw [X6_validCodes_L4, h5, if_neg (nL (by omega) (by omega) (by omega)), ix_n (by omega) (by decide), h.valid (by omega), ob_s]
    simp only [bE0, bnd_e, iI_add]
    rw [pos_s] at this
    by_cases e : rVal (rn (C k) us cm) = true
    · rw [if_neg (by simp [e])]
      rw [if_pos e] at this
      exact this
    · rw [if_pos e]
      rw [if_neg e] at this
      exact this
theorem MC.aliveL (h : MC w cm ln n us C) : ∀ d k fuel w1, k + d = n → d < fuel → Fr ScM w w1 → ∃ w', X7_aliveMany_L4 fuel (iI (pos (fun c => (rn (C c) us cm).1) k : Nat)) (iI (k : Nat)) w1 = some (iI (pos (fun c => (rn (C c) us cm).1) n : Nat), w') ∧ Fr ScM w w' := by
  have hn := h.1
  intro d
  induction d with
  | zero =>
    intro k fuel w1 hd hf f1
    obtain ⟨f', rfl⟩ : ∃ f', fuel = f' + 1 := ⟨fuel - 1, by omega⟩
    obtain rfl : k = n := by omega
    rw [X7_aliveMany_L4, (h.fr f1).2.2.2.2.1, if_pos (yL (by omega) (by omega) (by omega))]
    exact ⟨w1, rfl, f1⟩
  | succ d ih =>
    intro k fuel w1 hd hf f1
    obtain ⟨f', rfl⟩ : ∃ f', fuel = f' + 1 := ⟨fuel - 1, by omega⟩
    obtain ⟨w2, e1, e2, -⟩ := (h.fr f1).alive (show k < n by omega)
    have := ih (k + 1) f' w2 (by omega) (by omega) (f1.tr e2)
    rw [X7_aliveMany_L4, (h.fr f1).2.2.2.2.1, if_neg (nL (by omega) (by omega) (by omega)), e1, bI_s]
    simp only [bE0, bnd_e, iI_add]
    rw [pos_s] at this
    by_cases e : (rn (C k) us cm).1 = true
    · rw [if_neg (by simp [e])]
      rw [if_pos e] at this
      exact this
    · rw [if_pos e]
      rw [if_neg e] at this
      exact this
theorem MC.validL (h : MC w cm ln n us C) : ∀ d k fuel w1, k + d = n → d < fuel → Fr ScM w w1 → ∃ w', X7_validMany_L4 fuel (iI (pos (fun c => rVal (rn (C c) us cm)) k : Nat)) (iI (k : Nat)) w1 = some (iI (pos (fun c => rVal (rn (C c) us cm)) n : Nat), w') ∧ Fr ScM w w' := by
  have hn := h.1
  intro d
  induction d with
  | zero =>
    intro k fuel w1 hd hf f1
    obtain ⟨f', rfl⟩ : ∃ f', fuel = f' + 1 := ⟨fuel - 1, by omega⟩
    obtain rfl : k = n := by omega
    rw [X7_validMany_L4, (h.fr f1).2.2.2.2.1, if_pos (yL (by omega) (by omega) (by omega))]
    exact ⟨w1, rfl, f1⟩
  | succ d ih =>
    intro k fuel w1 hd hf f1
    obtain ⟨f', rfl⟩ : ∃ f', fuel = f' + 1 := ⟨fuel - 1, by omega⟩
    obtain ⟨w2, e1, e2, -⟩ := (h.fr f1).valid (show k < n by omega)
    have := ih (k + 1) f' w2 (by omega) (by omega) (f1.tr e2)
    rw [X7_validMany_L4, (h.fr f1).2.2.2.2.1, if_neg (nL (by omega) (by omega) (by omega)), e1, bI_s]
    simp only [bE0, bnd_e, iI_add]
    rw [pos_s] at this
    by_cases e : rVal (rn (C k) us cm) = true
    · rw [if_neg (by simp [e])]
      rw [if_pos e] at this
      exact this
    · rw [if_pos e]
      rw [if_neg e] at this
      exact this
end ABOUT
theorem op_about {w : Wd} (h : Rel w) (x y : Int32) : ∃ r w1 w2, X6_about w x y = some (r, w1) ∧ X7_about w1 x y = some (r, w2) ∧ Rel w2 := by
  obtain ⟨pl, cm, ln, n, us, pg, C, hR⟩ := id h
  obtain ⟨z, hz, rfl⟩ := iI_ex x
  obtain ⟨v, hv, rfl⟩ := iI_ex y
  have hn := hR.2.2.2.1.1
  have wi := wi_iff (a := v) (b := 0) (c := 7) hv (by decide) (by decide)
  by_cases o1 : 0 ≤ z ∧ z < n
  · obtain ⟨c, rfl⟩ : ∃ c : Nat, z = c := ⟨z.toNat, by omega⟩
    by_cases o2 : 0 ≤ v ∧ v ≤ 7
    · obtain ⟨k, rfl⟩ : ∃ c : Nat, v = c := ⟨v.toNat, by omega⟩
      obtain ⟨s, ws, -, -, e3⟩ := hR.xc.firstSure (a := c) (by omega)
      obtain ⟨w1, a1, a2⟩ := hR.xc.about (sv := fun _ => s) (c := c) (k := k) (by omega) (by omega) e3
      have hR1 := hR.fr (scX_sc a2)
      obtain ⟨w2, b1, b2⟩ := hR1.mc.about (sv := fun _ => s) (c := c) (k := k) (by omega) (by omega) e3
      refine ⟨_, w1, w2, a1, ?_, pl, cm, ln, n, us, pg, C, hR1.fr (scM_sc b2)⟩
      unfold X7_about
      rw [if_neg (fun q => (hR1.mc.isCode hz).mp q o1), if_neg (fun q => wi.mp q o2), b1, bI_s]
    · refine ⟨iI (-102), w, w, ?_, ?_, h⟩
      · unfold X6_about
        rw [if_neg (fun q => (hR.xc.isCode hz).mp q o1), ix_n (by omega) (by decide), if_neg (nE (by omega) hv (by omega)), if_neg (nE (by omega) hv (by omega)), if_neg (nE (by omega) hv (by omega)), if_neg (nE (by omega) hv (by omega)), if_neg (nE (by omega) hv (by omega)), if_neg (nE (by omega) hv (by omega)), if_neg (nE (by omega) hv (by omega)), if_neg (nE (by omega) hv (by omega))]
      · unfold X7_about
        rw [if_neg (fun q => (hR.mc.isCode hz).mp q o1), if_pos (wi.mpr o2)]
  · refine ⟨iI (-101), w, w, ?_, ?_, h⟩
    · unfold X6_about
      rw [if_pos ((hR.xc.isCode hz).mpr o1)]
    · unfold X7_about
      rw [if_pos ((hR.mc.isCode hz).mpr o1)]
/-- the numbers of count, on either side -/
theorem both_count {w : Wd} {pl cm ln n : Nat} {us pg : Nat → Nat} {C : Nat → Cd} (hR : RelA w pl cm ln n us pg C) (x : Int32) : ∃ r, X6_count w x = some r ∧ ∀ w1, RelA w1 pl cm ln n us pg C → rd w1 0 0 8 = rd w 0 0 8 → rd w1 0 0 9 = rd w 0 0 9 → ∃ w2, X7_howMany w1 x = some (r, w2) ∧ Fr ScM w1 w2 := by
  have hn := hR.2.2.2.1.1
  have ax := hR.xc.aliveL n 0 1000 (by omega) (by omega)
  have vx := hR.xc.validL n 0 1000 (by omega) (by omega)
  obtain ⟨hpg, hun, hev, hco, hre⟩ := id hR
  unfold X6_count X7_howMany
  by_cases q0 : x = iI 0
  · simp only [if_pos q0]
    exact ⟨_, rfl, fun w1 h1 _ _ => ⟨w1, by rw [h1.2.2.2.1.2.2.1, hco.2.1], Fr.rf _ w1⟩⟩
  simp only [if_neg q0]
  by_cases q1 : x = iI 1
  · simp only [if_pos q1]
    exact ⟨_, rfl, fun w1 h1 _ _ => ⟨w1, by rw [h1.2.1.2.2.2.2.1, hun.2.2.2.1], Fr.rf _ w1⟩⟩
  simp only [if_neg q1]
  by_cases q2 : x = iI 2
  · simp only [if_pos q2]
    exact ⟨_, rfl, fun w1 h1 _ _ => ⟨w1, by rw [h1.2.1.2.2.2.2.2.2.1, hun.2.2.2.2.2.1], Fr.rf _ w1⟩⟩
  simp only [if_neg q2]
  by_cases q3 : x = iI 3
  · simp only [if_pos q3]
    refine ⟨iI (pos (fun c => (rn (C c) us cm).1) n : Nat), by unfold X6_aliveCodes; rw [show X6_aliveCodes_L4 1000 (iI 0) (iI 0) w = _ from ax, ob_s], fun w1 h1 _ _ => ?_⟩
    obtain ⟨w2, e1, e2⟩ := h1.mc.aliveL n 0 1000 w1 (by omega) (by omega) (Fr.rf _ w1)
    exact ⟨w2, by unfold X7_aliveMany; rw [show X7_aliveMany_L4 1000 (iI 0) (iI 0) w1 = _ from e1, bI_s], e2⟩
  simp only [if_neg q3]
  by_cases q4 : x = iI 4
  · simp only [if_pos q4]
    refine ⟨iI (pos (fun c => rVal (rn (C c) us cm)) n : Nat), by unfold X6_validCodes; rw [show X6_validCodes_L4 1000 (iI 0) (iI 0) w = _ from vx, ob_s], fun w1 h1 _ _ => ?_⟩
    obtain ⟨w2, e1, e2⟩ := h1.mc.validL n 0 1000 w1 (by omega) (by omega) (Fr.rf _ w1)
    exact ⟨w2, by unfold X7_validMany; rw [show X7_validMany_L4 1000 (iI 0) (iI 0) w1 = _ from e1, bI_s], e2⟩
  simp only [if_neg q4]
  by_cases q5 : x = iI 5
  · simp only [if_pos q5]
    exact ⟨_, rfl, fun w1 h1 _ _ => ⟨w1, by rw [h1.1.2.2.1, hpg.2.1], Fr.rf _ w1⟩⟩
  simp only [if_neg q5]
  by_cases q6 : x = iI 6
  · simp only [if_pos q6]
    exact ⟨_, rfl, fun w1 h1 e8 _ => ⟨w1, by rw [← h1.2.2.1.1, e8], Fr.rf _ w1⟩⟩
  simp only [if_neg q6]
  by_cases q7 : x = iI 7
  · simp only [if_pos q7]
    exact ⟨_, rfl, fun w1 h1 _ e9 => ⟨w1, by rw [← h1.2.2.1.2, e9], Fr.rf _ w1⟩⟩
  simp only [if_neg q7]
  exact ⟨_, rfl, fun w1 h1 _ _ => ⟨w1, rfl, Fr.rf _ w1⟩⟩
theorem op_count {w : Wd} (h : Rel w) (x : Int32) : ∃ r w2, X6_count w x = some r ∧ X7_count w x = some (r, w2) ∧ Rel w2 := by
  obtain ⟨pl, cm, ln, n, us, pg, C, hR⟩ := id h
  obtain ⟨r, e1, e2⟩ := both_count hR x
  obtain ⟨w2, g1, g2⟩ := e2 w hR rfl rfl
  exact ⟨r, w2, e1, by unfold X7_count; rw [g1, bI_s], pl, cm, ln, n, us, pg, C, hR.fr (scM_sc g2)⟩

/-! What a question needs of the state, on either side; the plain questions. -/
def XC (w : Wd) (cm ln n : Nat) (us : Nat → Nat) (C : Nat → Cd) : Prop := n ≤ 4 ∧ 1 ≤ ln ∧ ln ≤ 40 ∧ cm ≤ ln ∧ rd w 0 0 7 = iI (n : Nat) ∧ rd w 0 0 3 = iI (cm : Nat) ∧ rd w 0 0 4 = iI (ln : Nat) ∧ (∀ j, j < cm → us j < 8 ∧ rd w 0 2 j = iI (us j : Nat)) ∧ ∀ c, c < n → cok (C c) ∧ CodeX w (c + 1) (C c) ∧ ReadX w (c + 5) (C c) us cm
def MC (w : Wd) (cm ln n : Nat) (us : Nat → Nat) (C : Nat → Cd) : Prop := n ≤ 4 ∧ 1 ≤ ln ∧ ln ≤ 40 ∧ cm ≤ ln ∧ rd w 12 0 0 = iI (n : Nat) ∧ rd w 12 0 8 = iI (cm : Nat) ∧ rd w 12 0 7 = iI (ln : Nat) ∧ (∀ j, j < cm → us j < 8 ∧ rd w 12 5 j = iI (us j : Nat)) ∧ ∀ c, c < n → cok (C c) ∧ CodeM w c (C c)
theorem RelA.xc {w : Wd} {pl cm ln n : Nat} {us pg : Nat → Nat} {C : Nat → Cd} (h : RelA w pl cm ln n us pg C) : XC w cm ln n us C := by
  obtain ⟨-, ⟨u1, u2, u3, u4, u5, u6, u7, u8⟩, -, ⟨c1, c2, c3, c4⟩, r⟩ := h
  exact ⟨c1, u1, u2, u3, c2, u4, u6, fun j hj => ⟨(u8 j hj).1, (u8 j hj).2.1⟩, fun c hc => ⟨(c4 c hc).1, (c4 c hc).2.1, r c hc⟩⟩
theorem RelA.mc {w : Wd} {pl cm ln n : Nat} {us pg : Nat → Nat} {C : Nat → Cd} (h : RelA w pl cm ln n us pg C) : MC w cm ln n us C := by
  obtain ⟨-, ⟨u1, u2, u3, u4, u5, u6, u7, u8⟩, -, ⟨c1, c2, c3, c4⟩, r⟩ := h
  exact ⟨c1, u1, u2, u3, c3, u5, u7, fun j hj => ⟨(u8 j hj).1, (u8 j hj).2.2⟩, fun c hc => ⟨(c4 c hc).1, (c4 c hc).2.2⟩⟩
theorem XC.fr {w w' : Wd} {cm ln n : Nat} {us : Nat → Nat} {C : Nat → Cd} (h : XC w cm ln n us C) (f : Fr ScX w w') : XC w' cm ln n us C := by
  obtain ⟨h1, h2, h3, h4, h5, h6, h7, h8, h9⟩ := h
  refine ⟨h1, h2, h3, h4, by rw [f.1 0 0 7 (by unfold ScX; omega)]; exact h5, by rw [f.1 0 0 3 (by unfold ScX; omega)]; exact h6, by rw [f.1 0 0 4 (by unfold ScX; omega)]; exact h7, fun j hj => ⟨(h8 j hj).1, by rw [f.1 0 2 j (by unfold ScX; omega)]; exact (h8 j hj).2⟩, fun c hc => ?_⟩
  obtain ⟨a, b, d⟩ := h9 c hc
  exact ⟨a, b.fr (fun o j ho => f.1 _ o j (by unfold ScX; omega)), d.fr (fun o j => f.1 _ o j (by unfold ScX; omega))⟩
theorem MC.fr {w w' : Wd} {cm ln n : Nat} {us : Nat → Nat} {C : Nat → Cd} (h : MC w cm ln n us C) (f : Fr ScM w w') : MC w' cm ln n us C := by
  obtain ⟨h1, h2, h3, h4, h5, h6, h7, h8, h9⟩ := h
  refine ⟨h1, h2, h3, h4, by rw [f.1 12 0 0 (by unfold ScM; omega)]; exact h5, by rw [f.1 12 0 8 (by unfold ScM; omega)]; exact h6, by rw [f.1 12 0 7 (by unfold ScM; omega)]; exact h7, fun j hj => ⟨(h8 j hj).1, by rw [f.1 12 5 j (by unfold ScM; omega)]; exact (h8 j hj).2⟩, fun c hc => ?_⟩
  obtain ⟨a, b⟩ := h9 c hc
  exact ⟨a, b.fr (fun o j h1 h2 => f.1 _ o j (by unfold ScM; omega))⟩
theorem SRun_m {g o j : Nat} (h : SRun g o j) : ScM g o j := by unfold SRun at h; unfold ScM; omega
theorem scM_sc {w w' : Wd} (f : Fr ScM w w') : Fr Sc w w' := f.mono (fun _ _ _ h => Or.inr h)
theorem scX_sc {w w' : Wd} (f : Fr ScX w w') : Fr Sc w w' := f.mono (fun _ _ _ h => Or.inl h)
section CTX
variable {w : Wd} {cm ln n : Nat} {us : Nat → Nat} {C : Nat → Cd}
theorem XC.isCode (h : XC w cm ln n us C) {z : Int} (hz : inR z) : X6_isCode w (iI z) = 0 ↔ ¬ (0 ≤ z ∧ z < n) := by
  obtain ⟨h1, -, -, -, h5, -⟩ := h
  unfold X6_isCode
  rw [h5]
  by_cases a : z < 0
  · rw [if_pos (yT0 a hz)]; exact ⟨fun _ => by omega, fun _ => rfl⟩
  · rw [if_neg (nT0 (by omega) hz)]
    by_cases b : (n : Int) ≤ z
    · rw [if_pos (yL b (by omega) hz)]; exact ⟨fun _ => by omega, fun _ => rfl⟩
    · rw [if_neg (nL (by omega) (by omega) hz)]; exact ⟨fun q => absurd q (by decide), fun q => by omega⟩
theorem MC.isCode (h : MC w cm ln n us C) {z : Int} (hz : inR z) : X7_isCode w (iI z) = 0 ↔ ¬ (0 ≤ z ∧ z < n) := by
  obtain ⟨h1, -, -, -, h5, -⟩ := h
  unfold X7_isCode
  rw [h5, iI_sub, wi_iff hz (by decide) (by omega)]
  omega
theorem isPair_iff {z : Int} (hz : inR z) : X6_isSortPair (iI z) = 0 ↔ ¬ (0 ≤ z ∧ z < 4) := by
  unfold X6_isSortPair
  by_cases a : z < 0
  · rw [if_pos (yT0 a hz)]; exact ⟨fun _ => by omega, fun _ => rfl⟩
  · rw [if_neg (nT0 (by omega) hz)]
    by_cases b : 4 ≤ z
    · rw [if_pos (yL b (by omega) hz)]; exact ⟨fun _ => by omega, fun _ => rfl⟩
    · rw [if_neg (nL (by omega) (by omega) hz)]; exact ⟨fun q => absurd q (by decide), fun q => by omega⟩
def rVal (r : Rn) : Bool := r.1 && decide (r.2.2.1 / 3 = 0)
/-- the run stopped where it died -/
theorem rn_sd {C : Cd} (hk : cok C) {us : Nat → Nat} : ∀ k, (∀ j, j < k → us j < 8) → (rn C us (rn C us k).2.1).1 = true ∧ (rn C us (rn C us k).2.1).2.2 = (rn C us k).2.2 := by
  intro k
  induction k with
  | zero => intro _; exact ⟨rfl, rfl⟩
  | succ k ih =>
    intro hu
    have ih := ih (fun j hj => hu j (by omega))
    have b1 := rnF_bd hk (us := us) (f := 0) (k + 1) (fun j hj => by rw [Nat.zero_add]; exact hu j hj)
    have b0 := rnF_bd hk (us := us) (f := 0) k (fun j hj => by rw [Nat.zero_add]; exact hu j (by omega))
    cases ea : (rn C us (k + 1)).1 with
    | true =>
      have : (rn C us (k + 1)).2.1 = k + 1 := b1.2.2.2 ea
      rw [this]; exact ⟨ea, rfl⟩
    | false =>
      cases e0 : (rn C us k).1 with
      | false =>
        have hf : rn C us (k + 1) = rn C us k := rnF_frozen e0 1
        rw [hf]; exact ih
      | true =>
        have h0 : (rn C us k).2.1 = k := b0.2.2.2 e0
        have hd : (rn C us (k + 1)).2 = (rn C us k).2 := by
          rw [rn_succ] at ea ⊢
          revert e0 ea
          generalize rn C us k = r
          obtain ⟨a, sd, p, sg, wt, pr⟩ := r
          intro ea e0
          dsimp only at e0
          subst e0
          cases et : trc C (p / 3) (us k) with
          | none => rw [rnS_none et]
          | some q =>
            obtain ⟨m', s⟩ := q
            by_cases hs : s = 0
            · subst hs; rw [rnS_zero et] at ea; cases ea
            · by_cases hp : p % 3 = 0
              · rw [rnS_first et hs hp] at ea; cases ea
              · rw [rnS_pair et hs hp] at ea; cases ea
        rw [hd, h0]
        exact ⟨e0, rfl⟩
theorem XC.bd (h : XC w cm ln n us C) {c : Nat} (hc : c < n) : (rn (C c) us cm).2.1 ≤ cm ∧ (rn (C c) us cm).2.2.2.1 ≤ cm ∧ (rn (C c) us cm).2.2.2.2.1 ≤ 9 * cm ∧ ((rn (C c) us cm).1 = true → (rn (C c) us cm).2.1 = cm) ∧ (rn (C c) us cm).2.2.1 < 15 := by
  obtain ⟨h1, h2, h3, h4, h5, h6, h7, h8, h9⟩ := h
  have b := rnF_bd (h9 c hc).1 (us := us) (f := 0) cm (fun j hj => by rw [Nat.zero_add]; exact (h8 j hj).1)
  have p := rnF_pl (h9 c hc).1 (us := us) (f := 0) cm (fun j hj => by rw [Nat.zero_add]; exact (h8 j hj).1)
  have := ms_le (C c)
  exact ⟨b.1, b.2.1, b.2.2.1, b.2.2.2, by show (rnF (C c) us 0 cm).2.2.1 < 15; omega⟩
theorem MC.bd (h : MC w cm ln n us C) {c : Nat} (hc : c < n) : (rn (C c) us cm).2.1 ≤ cm ∧ (rn (C c) us cm).2.2.2.1 ≤ cm ∧ (rn (C c) us cm).2.2.2.2.1 ≤ 9 * cm ∧ ((rn (C c) us cm).1 = true → (rn (C c) us cm).2.1 = cm) ∧ (rn (C c) us cm).2.2.1 < 15 := by
  obtain ⟨h1, h2, h3, h4, h5, h6, h7, h8, h9⟩ := h
  have b := rnF_bd (h9 c hc).1 (us := us) (f := 0) cm (fun j hj => by rw [Nat.zero_add]; exact (h8 j hj).1)
  have p := rnF_pl (h9 c hc).1 (us := us) (f := 0) cm (fun j hj => by rw [Nat.zero_add]; exact (h8 j hj).1)
  have := ms_le (C c)
  exact ⟨b.1, b.2.1, b.2.2.1, b.2.2.2, by show (rnF (C c) us 0 cm).2.2.1 < 15; omega⟩
theorem XC.valid (h : XC w cm ln n us C) {c : Nat} (hc : c < n) : X5_isValid w (c + 5) = some (bE (rVal (rn (C c) us cm))) := by
  have bd := h.bd hc
  obtain ⟨h1, h2, h3, h4, h5, h6, h7, h8, h9⟩ := h
  obtain ⟨r1, r2, r3, r4, r5⟩ := (h9 c hc).2.2
  unfold X5_isValid rVal
  rw [r5, r4]
  cases ea : (rn (C c) us cm).1 with
  | false => rw [if_pos (by decide)]; rfl
  | true =>
    rw [if_pos rfl, if_neg n10, bd.2.2.2.1 ea, ga_n (by omega) (by decide), (r1 cm (Nat.le_refl _) ea).1]
    have : X0_modeOf (iI ((rn (C c) us cm).2.2.1 : Nat)) = iI (((rn (C c) us cm).2.2.1 / 3 : Nat) : Int) := by
      unfold X0_modeOf
      rw [iI_div (by omega) (by omega) (by decide) (by decide)]; congr 1
    rw [this]
    by_cases hp : (rn (C c) us cm).2.2.1 / 3 = 0
    · rw [if_pos (yE0 (by omega)), decide_eq_true hp]; rfl
    · rw [if_neg (nE0 (by omega) (by omega)), decide_eq_false hp]; rfl
theorem XC.alive (h : XC w cm ln n us C) {c : Nat} (hc : c < n) : X5_isAlive w (c + 5) = some (bE (rn (C c) us cm).1) := by
  obtain ⟨h1, h2, h3, h4, h5, h6, h7, h8, h9⟩ := h
  obtain ⟨r1, r2, r3, r4, r5⟩ := (h9 c hc).2.2
  unfold X5_isAlive
  rw [r5]
  cases ea : (rn (C c) us cm).1 with
  | false => rfl
  | true => rfl
theorem XC.weight (h : XC w cm ln n us C) {c : Nat} (hc : c < n) : X5_weight w (c + 5) = some (iI ((rn (C c) us cm).2.2.2.2.1 : Nat)) := by
  have bd := h.bd hc
  obtain ⟨h1, h2, h3, h4, h5, h6, h7, h8, h9⟩ := h
  obtain ⟨r1, r2, r3, r4, r5⟩ := (h9 c hc).2.2
  obtain ⟨s1, s2⟩ := rn_sd (h9 c hc).1 cm (fun j hj => (h8 j hj).1)
  unfold X5_weight
  rw [r4, ga_n (by omega) (by decide), (r1 _ bd.1 s1).2, s2]
def grp (r : Rn) : Nat := if rVal r = true then 0 else if r.1 = true then 1 else 2
theorem XC.group (h : XC w cm ln n us C) {c : Nat} (hc : c < n) : X5_group w (c + 5) = some (iI (grp (rn (C c) us cm) : Nat)) := by
  have hv := h.valid hc
  obtain ⟨h1, h2, h3, h4, h5, h6, h7, h8, h9⟩ := h
  obtain ⟨r1, r2, r3, r4, r5⟩ := (h9 c hc).2.2
  unfold X5_group grp
  rw [hv, ob_s, r5]
  cases rVal (rn (C c) us cm) <;> cases (rn (C c) us cm).1 <;> rfl
theorem MC.along (h : MC w cm ln n us C) {c : Nat} (hc : c < n) : ∃ w', X7_goAlong w (iI (c : Nat)) (rd w 12 0 8) = some w' ∧ MReg w' (rn (C c) us cm) ∧ Fr ScM w w' := by
  obtain ⟨h1, h2, h3, h4, h5, h6, h7, h8, h9⟩ := h
  obtain ⟨w', e1, e2, e3⟩ := m_goAlong (w := w) (c := c) (h9 c hc).2 (h9 c hc).1 (by omega) (us := us) (many := cm) (by omega) h8
  exact ⟨w', by rw [h6]; exact e1, e2, e3.mono (fun _ _ _ => SRun_m)⟩
theorem MC.alive (h : MC w cm ln n us C) {c : Nat} (hc : c < n) : ∃ w', X7_isAlive w (iI (c : Nat)) = some (bE (rn (C c) us cm).1, w') ∧ Fr ScM w w' ∧ MReg w' (rn (C c) us cm) := by
  have bd := h.bd hc
  obtain ⟨w', e1, e2, e3⟩ := h.along hc
  refine ⟨w', ?_, e3, e2⟩
  unfold X7_isAlive
  rw [e1, ob_s, e2.1]
  cases (rn (C c) us cm).1 with
  | false => rw [if_neg (show ¬ false = true by decide), if_pos rfl]; rfl
  | true => rw [if_pos (show true = true from rfl), if_neg (nE (by omega) (by omega) (by omega))]; rfl
theorem MC.valid (h : MC w cm ln n us C) {c : Nat} (hc : c < n) : ∃ w', X7_isValid w (iI (c : Nat)) = some (bE (rVal (rn (C c) us cm)), w') ∧ Fr ScM w w' ∧ MReg w' (rn (C c) us cm) := by
  have bd := h.bd hc
  obtain ⟨w', e1, e2, e3⟩ := h.along hc
  refine ⟨w', ?_, e3, e2⟩
  unfold X7_isValid rVal
  rw [e1, ob_s, e2.1]
  cases (rn (C c) us cm).1 with
  | false => rw [if_neg (show ¬ false = true by decide), if_neg (by decide)]; rfl
  | true =>
    rw [if_pos (show true = true from rfl)]
    by_cases hp : (rn (C c) us cm).2.2.1 / 3 = 0
    · rw [if_pos (yE0 (by omega)), decide_eq_true hp]; rfl
    · rw [if_neg (nE0 (by omega) (by omega)), decide_eq_false hp]; rfl
end CTX
theorem op_ink {w : Wd} (h : Rel w) (a b : Int32) : ∃ r, X6_ink w a b = some r ∧ X7_ink w a b = some r := by
  obtain ⟨pl, cm, ln, n, us, pg, C, hR⟩ := h
  obtain ⟨z, hz, rfl⟩ := iI_ex a
  obtain ⟨y, hy, rfl⟩ := iI_ex b
  have xi := hR.xc.isCode hz
  have mi := hR.mc.isCode hz
  unfold X6_ink X7_ink
  by_cases out : 0 ≤ z ∧ z < n
  · rw [if_neg (fun q => xi.mp q out), if_neg (fun q => mi.mp q out)]
    obtain ⟨c, rfl⟩ : ∃ c : Nat, z = c := ⟨z.toNat, by omega⟩
    have hn := hR.2.2.2.1.1
    obtain ⟨hk, cx, cM⟩ := hR.2.2.2.1.2.2.2 c (by omega)
    have hl := lets_le (C c).1
    have hle : lets (C c).1 = 1 + dgs (C c).1 + mks (C c).1 + 4 := rfl
    rw [ga_n (by omega) (by decide), cM.1, m_lettersOf hk.1, iI_sub]
    have wi := wi_iff (a := y) (b := 0) (c := (lets (C c).1 : Int) - 1) hy (by decide) (by omega)
    by_cases h0 : y < 0
    · exact ⟨_, by rw [if_pos (yT0 h0 hy)], by rw [if_pos (wi.mpr (by omega))]⟩
    · rw [if_neg (nT0 (by omega) hy), ix_n (by omega) (by decide), ix_n (by omega) (by decide)]
      unfold X0_textLength
      rw [cx.1]
      by_cases h1 : y < lets (C c).1
      · obtain ⟨j, rfl⟩ : ∃ j : Nat, y = j := ⟨y.toNat, by omega⟩
        rw [if_pos (yT h1 hy (by omega)), if_neg (fun q => wi.mp q (by omega))]
        have ex : X0_textAt w (c + 1) (iI (j : Nat)) = some (iI (inkc (C c) j : Nat)) := by
          unfold X0_textAt
          rw [if_neg (nT0 (by omega) hy), cx.1, if_neg (nL (by omega) (by omega) (by omega)), ga_n (by omega) (by decide), cx.2.2.2.1 j (by omega)]
        refine ⟨iI (inkc (C c) j : Nat), by rw [ex, ob_s], ?_⟩
        unfold X7_inkNow
        have lt : ∀ k, k < 4 → X7_letterOf (iI (k : Nat)) = iI (letr k : Nat) := by decide
        have ml : ∀ k, k < 8 → X7_markLetter (iI (k : Nat)) = iI (mletr k : Nat) := by decide
        unfold inkc
        by_cases j0 : j = 0
        · rw [if_pos (yE0 (by omega)), ga_n (by omega) (by decide), cM.1, ob_s, if_pos j0, lt _ hk.1]
        · rw [if_neg (nE0 (by omega) (by omega)), ga_n (by omega) (by decide), cM.1, m_digitsOf hk.1, iI_sub, iI_sub, bnd_e, ga_n (by omega) (by decide), cM.1, m_marksOf hk.1, bnd_e, if_neg j0]
          by_cases j1 : j < 1 + dgs (C c).1
          · rw [if_neg (n0L (by omega) (by omega)), ga_n (by omega) (by decide), cM.2.1, iI_add, ob_s, if_pos j1]; congr 2
          · rw [if_pos (y0L (by omega) (by omega)), if_neg j1]
            by_cases j2 : j < 1 + dgs (C c).1 + mks (C c).1
            · rw [if_neg (nL (by omega) (by omega) (by omega)), iI_mul, iI_add, ga_e (k := 16 * c + (j - 1 - dgs (C c).1)) (by omega) (by omega) (by decide), cM.2.2.1 _ (by omega), ob_s, if_pos j2, ml _ (hk.2.2.1 _ (by omega)).1]
            · rw [if_pos (yL (by omega) (by omega) (by omega)), iI_mul, iI_add, iI_sub, ga_e (k := 4 * c + (j - 1 - dgs (C c).1 - mks (C c).1)) (by omega) (by omega) (by decide), cM.2.2.2 _ (by omega), iI_add, ob_s, if_neg j2]; congr 2
      · exact ⟨_, by rw [if_neg (nT (by omega) hy (by omega))], by rw [if_pos (wi.mpr (by omega))]⟩
  · exact ⟨_, by rw [if_pos (xi.mpr out)], by rw [if_pos (mi.mpr out)]⟩
theorem xc_pointsOf {w : Wd} {g i : Nat} {C : Cd} (cx : CodeX w g C) (hk : cok C) (hi : i < 4) : X0_pointsOf w g (iI (i : Nat)) = some (iI (C.2.2.2 i : Nat)) := by
  have hl := lets_le C.1
  have hle : lets C.1 = 1 + dgs C.1 + mks C.1 + 4 := rfl
  have hp := hk.2.2.2 i hi
  unfold X0_pointsOf
  rw [cx.2.1, x_pointsBegin hk.1, iI_add, bnd_e, cx.1, if_neg (nT0 (by omega) (by omega)), if_neg (nL (by omega) (by omega) (by omega)), ga_e (k := 1 + dgs C.1 + mks C.1 + i) (by omega) (by omega) (by decide), cx.2.2.2.1 _ (by omega)]
  unfold inkc
  rw [if_neg (by omega), if_neg (by omega), if_neg (by omega), iI_sub, show 1 + dgs C.1 + mks C.1 + i - 1 - dgs C.1 - mks C.1 = i by omega]
  congr 2; omega
theorem op_points {w : Wd} (h : Rel w) (a b : Int32) : ∃ r, X6_points w a b = some r ∧ X7_points w a b = some r := by
  obtain ⟨pl, cm, ln, n, us, pg, C, hR⟩ := h
  obtain ⟨z, hz, rfl⟩ := iI_ex a
  obtain ⟨y, hy, rfl⟩ := iI_ex b
  have xi := hR.xc.isCode hz
  have mi := hR.mc.isCode hz
  have xp := isPair_iff hy
  have wi := wi_iff (a := y) (b := 0) (c := 3) hy (by decide) (by decide)
  unfold X6_points X7_points
  by_cases out : 0 ≤ z ∧ z < n
  · rw [if_neg (fun q => xi.mp q out), if_neg (fun q => mi.mp q out)]
    obtain ⟨c, rfl⟩ : ∃ c : Nat, z = c := ⟨z.toNat, by omega⟩
    have hn := hR.2.2.2.1.1
    obtain ⟨hk, cx, cM⟩ := hR.2.2.2.1.2.2.2 c (by omega)
    by_cases o2 : 0 ≤ y ∧ y < 4
    · obtain ⟨i, rfl⟩ : ∃ i : Nat, y = i := ⟨y.toNat, by omega⟩
      rw [if_neg (fun q => xp.mp q o2), if_neg (fun q => wi.mp q (by omega)), ix_n (by omega) (by decide), xc_pointsOf cx hk (by omega), ob_s, iI_mul, iI_add, ga_e (k := 4 * c + i) (by omega) (by omega) (by decide), cM.2.2.2 i (by omega)]
      exact ⟨_, rfl, rfl⟩
    · exact ⟨_, by rw [if_pos (xp.mpr o2)], by rw [if_pos (wi.mpr (by omega))]⟩
  · exact ⟨_, by rw [if_pos (xi.mpr out)], by rw [if_pos (mi.mpr out)]⟩
theorem op_pairs {w : Wd} (h : Rel w) (a b : Int32) : ∃ r w2, X6_pairs w a b = some r ∧ X7_pairs w a b = some (r, w2) ∧ Rel w2 := by
  obtain ⟨pl, cm, ln, n, us, pg, C, hR⟩ := id h
  obtain ⟨z, hz, rfl⟩ := iI_ex a
  obtain ⟨y, hy, rfl⟩ := iI_ex b
  have xi := hR.xc.isCode hz
  have mi := hR.mc.isCode hz
  have xp := isPair_iff hy
  have wi := wi_iff (a := y) (b := 0) (c := 3) hy (by decide) (by decide)
  unfold X6_pairs X7_pairs
  by_cases out : 0 ≤ z ∧ z < n
  · rw [if_neg (fun q => xi.mp q out), if_neg (fun q => mi.mp q out)]
    obtain ⟨c, rfl⟩ : ∃ c : Nat, z = c := ⟨z.toNat, by omega⟩
    have hn := hR.2.2.2.1.1
    by_cases o2 : 0 ≤ y ∧ y < 4
    · obtain ⟨i, rfl⟩ : ∃ i : Nat, y = i := ⟨y.toNat, by omega⟩
      obtain ⟨w', e1, e2, e3⟩ := hR.mc.along (c := c) (by omega)
      refine ⟨iI ((rn (C c) us cm).2.2.2.2.2 i : Nat), w', ?_, ?_, pl, cm, ln, n, us, pg, C, hR.fr (scM_sc e3)⟩
      · rw [if_neg (fun q => xp.mp q o2), ix_n (by omega) (by decide)]
        unfold X5_pairCount
        rw [isPair_in (by omega), if_neg n10, ga_n (by omega) (by decide), (hR.2.2.2.2 c (by omega)).2.1 i (by omega), ob_s]
      · rw [if_neg (fun q => wi.mp q (by omega))]
        unfold X7_pairsOf
        rw [e1, ob_s, ga_n (by omega) (by decide), e2.2.2.2.2.2 i (by omega), bI_s]
    · exact ⟨_, w, by rw [if_pos (xp.mpr o2)], by rw [if_pos (wi.mpr (by omega))], h⟩
  · exact ⟨_, w, by rw [if_pos (xi.mpr out)], by rw [if_pos (mi.mpr out)], h⟩

/-! cuts, piece -/
def GoodT (T : Nat → En) (size : Nat) : Prop := size ≤ 40 ∧ (∀ b, b ≤ size → EnOK size b (T b)) ∧ (∀ b, b < size → EnC T size b (T b)) ∧ T size = some (0, 0, 0, 0, 0)
theorem tb_good {C : Nat → Cd} {us : Nat → Nat} {n size : Nat} (hs : size ≤ 40) (hn : n ≤ 4) (hk : ∀ c, c < n → cok (C c)) (hu : ∀ j, j < size → us j < 8) : GoodT (tb C us n size size) size := by
  refine ⟨hs, tb_ok hn hk hu size (Nat.le_refl _), fun b hb => tb_c C us n size hb, ?_⟩
  have := tb_keep C us n size 0 size size (by omega)
  rw [show 0 + size = size by omega] at this
  rw [this]
  show (if size = size then _ else _) = _
  rw [if_pos rfl]
def sel (p : Nat) (t : Int × Nat × Nat × Nat × Nat) : Nat := if p = 0 then t.2.2.1 else if p = 1 then t.2.2.2.1 else t.2.2.2.2
def pv (T : Nat → En) (p : Nat) : Nat → Nat → Nat
  | 0, b => match T b with
    | none => 0
    | some t => sel p t
  | d + 1, b => match T b with
    | none => 0
    | some t => pv T p d t.2.2.1
theorem GoodT.lt {T : Nat → En} {size : Nat} (g : GoodT T size) {b : Nat} {wo : Int} {pc en cd wt d : Nat} (hb : b ≤ size) (hT : T b = some (wo, pc, en, cd, wt)) (hpc : d < pc) : b < size := by
  rcases Nat.lt_or_ge b size with q | q
  · exact q
  · obtain rfl : b = size := by omega
    rw [g.2.2.2] at hT; cases hT; omega
theorem x_prop {w : Wd} {T : Nat → En} {size : Nat} (g : GoodT T size) (hD : DX w T 0 size) {p : Nat} (hp : p < 3) : ∀ d i b fuel wo pc en cd wt, b ≤ size → i + d < 1000 → d < fuel → T b = some (wo, pc, en, cd, wt) → d < pc → X1_propertyOf_L5 fuel X1_propertyOf_L30 (iI ((i + d : Nat) : Int)) (iI (p : Nat)) (iI (b : Nat)) (iI (i : Nat)) w = some (iI (pv T p d b : Nat)) := by
  have h40 := g.1
  intro d
  induction d with
  | zero =>
    intro i b fuel wo pc en cd wt hb hd hf hT hpc
    obtain ⟨f', rfl⟩ : ∃ f', fuel = f' + 1 := ⟨fuel - 1, by omega⟩
    have hbs := g.lt hb hT hpc
    have hx := hD.1 b (by omega) hbs
    rw [hT] at hx
    obtain ⟨-, -, a3, a4, a5⟩ := hx
    rw [X1_propertyOf_L5, if_pos (yL (by omega) (by omega) (by omega))]
    unfold X1_propertyOf_L30 pv
    rw [hT]
    unfold sel
    by_cases p0 : p = 0
    · rw [if_pos (yE (by omega)), ga_n (by omega) (by decide), a3]; simp [p0]
    · rw [if_neg (nE (by omega) (by omega) (by omega))]
      by_cases p1 : p = 1
      · rw [if_pos (yE (by omega)), ga_n (by omega) (by decide), a4]; simp [p1]
      · rw [if_neg (nE (by omega) (by omega) (by omega)), ga_n (by omega) (by decide), a5]; simp [p0, p1]
  | succ d ih =>
    intro i b fuel wo pc en cd wt hb hd hf hT hpc
    obtain ⟨f', rfl⟩ : ∃ f', fuel = f' + 1 := ⟨fuel - 1, by omega⟩
    have hbs := g.lt hb hT hpc
    have hx := hD.1 b (by omega) hbs
    have hok := g.2.1 b hb wo pc en cd wt hT
    obtain ⟨⟨wo', pc', en', cd', wt'⟩, c2, c3⟩ := g.2.2.1 b hbs wo pc en cd wt hT hbs
    dsimp only at c3
    rw [hT] at hx
    obtain ⟨-, -, a3, a4, a5⟩ := hx
    dsimp only at a3
    have hok4 := hok.2.2.2.1 hbs
    rw [X1_propertyOf_L5, if_neg (nL (by omega) (by omega) (by omega)), if_neg (nL (by omega) (by omega) (by omega)), ga_n (by omega) (by decide), a3, bnd_e, iI_add]
    have := ih (i + 1) en f' wo' pc' en' cd' wt' (by omega) (by omega) (by omega) c2 (by omega)
    rw [show i + 1 + d = i + (d + 1) by omega] at this
    rw [show (i : Int) + 1 = ((i + 1 : Nat) : Int) by omega, this]
    show _ = some (iI (((match T b with | none => 0 | some t => pv T p d t.2.2.1 : Nat)) : Int))
    rw [hT]
theorem m_prop {w : Wd} {T : Nat → En} {size : Nat} (g : GoodT T size) (hD : DM w T 0 size) {p : Nat} (hp : p < 3) : ∀ d i b fuel wo pc en cd wt, b ≤ size → i + d < 1000 → d < fuel → T b = some (wo, pc, en, cd, wt) → d < pc → X7_pieceNow_L5 fuel X7_pieceNow_L24 (iI ((i + d : Nat) : Int)) (iI (p : Nat)) (iI (b : Nat)) (iI (i : Nat)) w = some (iI (pv T p d b : Nat)) := by
  have h40 := g.1
  intro d
  induction d with
  | zero =>
    intro i b fuel wo pc en cd wt hb hd hf hT hpc
    obtain ⟨f', rfl⟩ : ∃ f', fuel = f' + 1 := ⟨fuel - 1, by omega⟩
    have hbs := g.lt hb hT hpc
    have hx := hD.1 b (by omega) hbs
    rw [hT] at hx
    obtain ⟨-, -, a3, a4, a5⟩ := hx
    rw [X7_pieceNow_L5, if_pos (yL (by omega) (by omega) (by omega))]
    unfold X7_pieceNow_L24 pv
    rw [hT]
    unfold sel
    by_cases p0 : p = 0
    · rw [if_pos (yE0 (by omega)), ga_n (by omega) (by decide), a3]; simp [p0]
    · rw [if_neg (nE0 (by omega) (by omega))]
      by_cases p1 : p = 1
      · rw [if_pos (yE (by omega)), ga_n (by omega) (by decide), a4]; simp [p1]
      · rw [if_neg (nE (by omega) (by omega) (by omega)), ga_n (by omega) (by decide), a5]; simp [p0, p1]
  | succ d ih =>
    intro i b fuel wo pc en cd wt hb hd hf hT hpc
    obtain ⟨f', rfl⟩ : ∃ f', fuel = f' + 1 := ⟨fuel - 1, by omega⟩
    have hbs := g.lt hb hT hpc
    have hx := hD.1 b (by omega) hbs
    have hok := g.2.1 b hb wo pc en cd wt hT
    obtain ⟨⟨wo', pc', en', cd', wt'⟩, c2, c3⟩ := g.2.2.1 b hbs wo pc en cd wt hT hbs
    dsimp only at c3
    rw [hT] at hx
    obtain ⟨-, -, a3, a4, a5⟩ := hx
    dsimp only at a3
    have hok4 := hok.2.2.2.1 hbs
    rw [X7_pieceNow_L5, if_neg (nL (by omega) (by omega) (by omega)), ga_n (by omega) (by decide), a3, bnd_e, iI_add]
    have := ih (i + 1) en f' wo' pc' en' cd' wt' (by omega) (by omega) (by omega) c2 (by omega)
    rw [show i + 1 + d = i + (d + 1) by omega] at this
    rw [show (i : Int) + 1 = ((i + 1 : Nat) : Int) by omega, this]
    show _ = some (iI (((match T b with | none => 0 | some t => pv T p d t.2.2.1 : Nat)) : Int))
    rw [hT]
theorem DX.zero {w : Wd} {T : Nat → En} {size : Nat} (h : DX w T 0 size) : EX2 w 0 (T 0) := by
  by_cases z : size = 0
  · subst z; exact h.2
  · exact (h.1 0 (by omega) (by omega)).to2
theorem DM.zero {w : Wd} {T : Nat → En} {size : Nat} (h : DM w T 0 size) : EM2 w 0 (T 0) := by
  by_cases z : size = 0
  · subst z; exact h.2
  · exact (h.1 0 (by omega) (by omega)).to2
theorem SD_x {g o j : Nat} (h : SD g o j) : ScX g o j := by unfold SD at h; unfold ScX; omega
/-- both divisions, one behind the other -/
theorem both_cuts {w : Wd} {pl cm ln n : Nat} {us pg : Nat → Nat} {C : Nat → Cd} (hR : RelA w pl cm ln n us pg C) : ∃ w1 w2, X1_divide w (rd w 0 0 7) (rd w 0 0 3) = some (bE (tb C us n cm cm 0).isSome, w1) ∧ X7_areCuts w1 = some (bE (tb C us n cm cm 0).isSome, w2) ∧ RelA w1 pl cm ln n us pg C ∧ RelA w2 pl cm ln n us pg C ∧ DX w1 (tb C us n cm cm) 0 cm ∧ DM w2 (tb C us n cm cm) 0 cm ∧ GoodT (tb C us n cm cm) cm ∧ w1.2 = w.2 ∧ w2.2 = w.2 := by
  have hx := hR.xc
  obtain ⟨h1, h2, h3, h4, h5, h6, h7, h8, h9⟩ := id hx
  obtain ⟨w1, a1, a2, a3⟩ := x_divide hx
  have hR1 := hR.fr (scX_sc (a2.mono (fun _ _ _ h => SD_x h)))
  obtain ⟨w2, b1, b2, b3⟩ := m_areCuts hR1.mc
  refine ⟨w1, w2, by rw [h5, h6]; exact a1, b1, hR1, hR1.fr (scM_sc (b2.mono (fun _ _ _ h => SMc_m h))), a3, b3, tb_good (by omega) h1 (fun c hc => (h9 c hc).1) (fun j hj => (h8 j hj).1), a2.2, b2.2.trans a2.2⟩
theorem op_cuts {w : Wd} (h : Rel w) (a : Int32) : ∃ r w1 w2, X6_cuts w a = some (r, w1) ∧ X7_cuts w1 a = some (r, w2) ∧ Rel w2 := by
  obtain ⟨pl, cm, ln, n, us, pg, C, hR⟩ := id h
  obtain ⟨z, hz, rfl⟩ := iI_ex a
  have wi := wi_iff (a := z) (b := 0) (c := 1) hz (by decide) (by decide)
  unfold X6_cuts X7_cuts
  by_cases o1 : z < 0
  · exact ⟨_, w, w, by rw [if_pos (yT0 o1 hz)], by rw [if_pos (wi.mpr (by omega))], h⟩
  · by_cases o2 : z ≤ 1
    · obtain ⟨w1, w2, a1, b1, r1, r2, d1, d2, g, -, -⟩ := both_cuts hR
      rw [if_neg (nT0 (by omega) hz), if_pos (yL o2 hz (by decide)), a1, bI_s]
      have z1 := d1.zero
      have z2 := d2.zero
      cases e : tb C us n cm cm 0 with
      | none =>
        rw [e] at a1 b1
        exact ⟨_, w1, w2, by rw [if_pos (show bE (none : En).isSome = 0 from rfl)], by rw [if_neg (fun q => wi.mp q (by omega)), b1, bI_s, if_pos (show bE (none : En).isSome = 0 from rfl)], pl, cm, ln, n, us, pg, C, r2⟩
      | some t =>
        rw [e] at a1 b1 z1 z2
        by_cases q0 : z = 0
        · refine ⟨iI t.1, w1, w2, ?_, ?_, pl, cm, ln, n, us, pg, C, r2⟩
          rotate_left
          · rw [if_neg (fun q => wi.mp q (by omega)), b1, bI_s, if_neg (show ¬ bE (some t).isSome = 0 by show ¬ bE true = 0; decide), if_pos (yE0 q0), ga_e (k := 0) (by omega) (by omega) (by decide), z2.1]
          · rw [if_neg (show ¬ bE (some t).isSome = 0 by show ¬ bE true = 0; decide), if_pos (yE0 q0)]
            unfold X1_worth
            rw [ga_e (k := 0) (by omega) (by omega) (by decide), z1.1, ob_s]
        · refine ⟨iI (t.2.1 : Nat), w1, w2, ?_, ?_, pl, cm, ln, n, us, pg, C, r2⟩
          rotate_left
          · rw [if_neg (fun q => wi.mp q (by omega)), b1, bI_s, if_neg (show ¬ bE (some t).isSome = 0 by show ¬ bE true = 0; decide), if_neg (nE0 q0 hz), ga_e (k := 0) (by omega) (by omega) (by decide), z2.2]
          · rw [if_neg (show ¬ bE (some t).isSome = 0 by show ¬ bE true = 0; decide), if_neg (nE0 q0 hz)]
            unfold X1_pieceCount
            rw [ga_e (k := 0) (by omega) (by omega) (by decide), z1.2, ob_s]
    · exact ⟨_, w, w, by rw [if_neg (nT0 (by omega) hz), if_neg (nL (by omega) hz (by decide))], by rw [if_pos (wi.mpr (by omega))], h⟩
theorem op_piece {w : Wd} (h : Rel w) (a b : Int32) : ∃ r w1 w2, X6_piece w a b = some (r, w1) ∧ X7_piece w1 a b = some (r, w2) ∧ Rel w2 := by
  obtain ⟨pl, cm, ln, n, us, pg, C, hR⟩ := id h
  obtain ⟨z, hz, rfl⟩ := iI_ex a
  obtain ⟨y, hy, rfl⟩ := iI_ex b
  have wi2 := wi_iff (a := y) (b := 0) (c := 2) hy (by decide) (by decide)
  obtain ⟨w1, w2, a1, b1, r1, r2, d1, d2, g, -, -⟩ := both_cuts hR
  have hRel : Rel w2 := ⟨pl, cm, ln, n, us, pg, C, r2⟩
  unfold X6_piece X7_piece
  rw [a1, bI_s]
  have z1 := d1.zero
  have z2 := d2.zero
  cases e : tb C us n cm cm 0 with
  | none =>
    rw [e] at b1
    exact ⟨_, w1, w2, by rw [if_pos (show bE (none : En).isSome = 0 from rfl)], by rw [b1, bI_s, if_pos (show bE (none : En).isSome = 0 from rfl)], hRel⟩
  | some t =>
    obtain ⟨wo, pc, en, cd, wt⟩ := t
    have hok := g.2.1 0 (by omega) wo pc en cd wt e
    have h40 := g.1
    rw [e] at b1 z1 z2
    have z1 := z1.2
    have z2 := z2.2
    dsimp only at z1 z2
    have wi := wi_iff (a := z) (b := 0) (c := (pc : Int) - 1) hz (by decide) (by omega)
    have hn0 : ¬ bE (some (wo, pc, en, cd, wt)).isSome = 0 := by show ¬ bE true = 0; decide
    rw [if_neg hn0]
    have mm : ∀ r, (if X7_within (iI z) (iI 0) (iI ((pc : Int) - 1)) = 0 then some ((iI (-101)), w2) else if X7_within (iI y) (iI 0) (iI 2) = 0 then some ((iI (-102)), w2) else ob (X7_pieceNow w2 (iI z) (iI y)) fun r_4 => some (r_4, w2)) = some (r, w2) → X7_piece w1 (iI z) (iI y) = some (r, w2) := by
      intro r hr
      unfold X7_piece
      rw [b1, bI_s, if_neg hn0, ga_e (k := 0) (by omega) (by omega) (by decide), z2, iI_sub]
      exact hr
    unfold X1_pieceCount
    rw [ga_e (k := 0) (by omega) (by omega) (by decide), z1, ob_s]
    by_cases o1 : z < 0
    · exact ⟨_, w1, w2, by rw [if_pos (yT0 o1 hz)], mm _ (by rw [if_pos (wi.mpr (by omega))]), hRel⟩
    · rw [if_neg (nT0 (by omega) hz)]
      by_cases o2 : z < pc
      · rw [if_pos (yT o2 hz (by omega))]
        by_cases o3 : y < 0
        · exact ⟨_, w1, w2, by rw [if_pos (yT0 o3 hy)], mm _ (by rw [if_neg (fun q => wi.mp q (by omega)), if_pos (wi2.mpr (by omega))]), hRel⟩
        · rw [if_neg (nT0 (by omega) hy)]
          by_cases o4 : y ≤ 2
          · obtain ⟨i, rfl⟩ : ∃ i : Nat, z = i := ⟨z.toNat, by omega⟩
            obtain ⟨p, rfl⟩ : ∃ p : Nat, y = p := ⟨y.toNat, by omega⟩
            have hx := x_prop g d1 (p := p) (by omega) i 0 0 1000 wo pc en cd wt (by omega) (by omega) (by omega) e (by omega)
            have hm := m_prop g d2 (p := p) (by omega) i 0 0 1000 wo pc en cd wt (by omega) (by omega) (by omega) e (by omega)
            rw [show 0 + i = i by omega] at hx hm
            refine ⟨_, w1, w2, ?_, mm (iI (pv (tb C us n cm cm) p i 0 : Nat)) ?_, hRel⟩
            · rw [if_pos (yL o4 hy (by decide))]
              unfold X1_propertyOf
              rw [show X1_propertyOf_L5 1000 X1_propertyOf_L30 (iI (i : Nat)) (iI (p : Nat)) (iI 0) (iI 0) w1 = _ from hx, ob_s]
            · rw [if_neg (fun q => wi.mp q (by omega)), if_neg (fun q => wi2.mp q (by omega))]
              unfold X7_pieceNow
              rw [show X7_pieceNow_L5 1000 X7_pieceNow_L24 (iI (i : Nat)) (iI (p : Nat)) (iI 0) (iI 0) w2 = _ from hm, ob_s]
          · exact ⟨_, w1, w2, by rw [if_neg (nL (by omega) hy (by decide))], mm _ (by rw [if_neg (fun q => wi.mp q (by omega)), if_pos (wi2.mpr (by omega))]), hRel⟩
      · exact ⟨_, w1, w2, by rw [if_neg (nT (by omega) hz (by omega))], mm _ (by rw [if_pos (wi.mpr (by omega))]), hRel⟩

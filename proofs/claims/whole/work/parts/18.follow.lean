/-! A Reading follows the stream. -/
def XReg (w : Wd) (g : Nat) (C : Cd) (us : Nat → Nat) (k : Nat) : Prop := (∀ j, j ≤ k → rd w g 1 j = iI ((rn C us j).2.2.1 : Nat) ∧ rd w g 2 j = iI ((rn C us j).2.2.2.2.1 : Nat)) ∧ (∀ i, i < 4 → rd w g 3 i = iI ((rn C us k).2.2.2.2.2 i : Nat)) ∧ rd w g 0 4 = iI ((rn C us k).2.2.2.1 : Nat) ∧ rd w g 0 5 = iI (k : Nat)
def SG (g : Nat) : Nat → Nat → Nat → Prop := fun a _ _ => a = g
theorem SG_code {w w' : Wd} {g g0 : Nat} {C : Cd} (f : Fr (SG g) w w') (hg : g0 ≠ g) (h : CodeX w g0 C) : CodeX w' g0 C := h.fr (fun o j _ => f.1 _ o j (by unfold SG; omega))
theorem isPair_in {i : Nat} (h : i < 4) : X6_isSortPair (iI i) = iI 1 := by
  unfold X6_isSortPair
  rw [if_neg (nT0 (by omega) (by omega)), if_neg (nL (by omega) (by omega) (by omega))]
theorem x_takeL {w : Wd} {g k p u p' wt : Nat} {C : Cd} (hC : CodeX w (g - 4) C) (hk : cok C) (hg : 5 ≤ g) (hk4 : k < 40) (hp : p < 15) (hu : u < 8) (hw : rd w g 2 k = iI (wt : Nat)) :
    ∃ w', X5_take_L67 g (iI (k : Nat)) (iI (u : Nat)) (iI (p : Nat)) (iI (p' : Nat)) w = some w' ∧ Fr (SG g) w w' ∧ (∀ j, j ≤ k → rd w' g 1 j = rd w g 1 j ∧ rd w' g 2 j = rd w g 2 j) ∧ rd w' g 1 (k + 1) = iI (p' : Nat) ∧ rd w' g 2 (k + 1) = iI ((wt + gn C p u : Nat) : Int) ∧ rd w' g 0 5 = iI ((k + 1 : Nat) : Int) ∧ (∀ i, rd w' g 3 i = rd w g 3 i) ∧ rd w' g 0 4 = rd w g 0 4 := by
  unfold X5_take_L67
  rw [iI_add, pa_e (k := k + 1) (by omega) (by omega) (by decide), ga_n (by omega) (by decide), rd_o (by decide), hw]
  have f1 : Fr (SG g) w (wr w g 1 (k + 1) (iI (p' : Nat))) := (Fr.rf _ w).wr _ rfl
  rw [x_gain (SG_code f1 (by omega) hC) hp hu, ob_s, pa_e (k := k + 1) (by omega) (by omega) (by decide), bnd_e, iI_add]
  refine ⟨_, rfl, (f1.wr _ rfl).wr _ rfl, fun j hj => ⟨?_, ?_⟩, ?_, ?_, ?_, fun i => ?_, ?_⟩
  · rw [rd_o (by decide), rd_o (by decide), rd_j (by omega)]
  · rw [rd_o (by decide), rd_j (by omega), rd_o (by decide)]
  · rw [rd_o (by decide), rd_o (by decide), rd_eq]
  · rw [rd_o (by decide), rd_eq]; congr 1
  · rw [rd_eq]; congr 1
  · rw [rd_o (by decide), rd_o (by decide), rd_o (by decide)]
  · rw [rd_j (by decide), rd_o (by decide), rd_o (by decide)]
theorem rn_succ (C : Cd) (us : Nat → Nat) (k : Nat) : rn C us (k + 1) = rnS C (us k) (rn C us k) := by
  show rnS C (us (0 + k)) (rnF C us 0 k) = _
  rw [Nat.zero_add]
theorem x_take {w : Wd} {g k : Nat} {C : Cd} {us : Nat → Nat} (hC : CodeX w (g - 4) C) (hk : cok C) (hg : 5 ≤ g) (hk4 : k < 40) (hu : us k < 8) (h : XReg w g C us k) (ha : (rn C us k).1 = true) (hpl : (rn C us k).2.2.1 < 3 * ms C) :
    ∃ w', X5_take w g (iI (k : Nat)) (iI (us k : Nat)) = some w' ∧ Fr (SG g) w w' ∧ (((rn C us (k + 1)).1 = true ∧ XReg w' g C us (k + 1)) ∨ ((rn C us (k + 1)).1 = false ∧ w' = w)) := by
  obtain ⟨h1, h2, h3, h4⟩ := h
  have hS := rn_succ C us k
  have hk1 := h1 k (Nat.le_refl _)
  have hms := ms_le C
  revert hS ha hpl hk1 h2 h3
  generalize hr : rn C us k = r
  obtain ⟨a, sd, p, sg, wt, pr⟩ := r
  intro ha hpl h2 h3 hS hk1
  dsimp only at ha hpl h2 h3 hk1
  subst ha
  unfold X5_take
  rw [ga_n (by omega) (by decide), hk1.1, x_nextState hC (by omega) hu, ob_s]
  cases e : trc C (p / 3) (us k) with
  | none =>
    have en : nx C p (us k) = none := by unfold nx; rw [e]
    rw [rnS_none e] at hS
    rw [en, show oE none = iI (-1) from rfl, if_pos rfl]
    exact ⟨w, rfl, Fr.rf _ w, Or.inr ⟨by rw [hS], rfl⟩⟩
  | some q =>
    obtain ⟨m', s⟩ := q
    obtain ⟨-, q1, q2⟩ := trc_ok hk hu e
    have hgn : gn C p (us k) = if s = 0 then 0 else if p % 3 = 0 then 0 else C.2.2.2 ((p % 3 - 1) * 2 + (s - 1)) := by unfold gn; rw [e]
    have hnx : nx C p (us k) = some (if s = 0 then 3 * m' + p % 3 else 3 * m' + s) := by unfold nx; rw [e]; dsimp only; split <;> rfl
    generalize hpp : (if s = 0 then 3 * m' + p % 3 else 3 * m' + s) = p' at hnx
    have hp' : p' < 15 := by rw [← hpp]; split <;> omega
    rw [hnx, show oE (some p') = iI (p' : Nat) from rfl, if_neg (nE (by omega) (by omega) (by omega)), bnd_e, iI_irm (by omega) (by omega) (by decide) (by decide)]
    rw [show X0_modeOf (iI (p : Int)) = iI ((p / 3 : Nat) : Int) from by unfold X0_modeOf; rw [iI_div (by omega) (by omega) (by decide) (by decide)]; congr 1]
    rw [x_sortEnded hC hk (by omega) hu, e, ob_s]
    dsimp only
    by_cases hs : s = 0
    · subst hs
      rw [if_pos (yE0 (by omega))]
      obtain ⟨w', g1, g2, g3, g4, g5, g6, g7, g8⟩ := x_takeL (p' := p') hC hk hg hk4 (show p < 15 by omega) hu hk1.2
      rw [rnS_zero e] at hS
      rw [if_pos rfl] at hpp
      refine ⟨w', g1, g2, Or.inl ⟨by rw [hS], fun j hj => ?_, fun i hi => ?_, ?_, ?_⟩⟩
      · by_cases hj2 : j = k + 1
        · subst hj2
          rw [g4, g5, hS, hgn]
          dsimp only
          rw [if_pos rfl, hpp]
          exact ⟨rfl, rfl⟩
        · rw [(g3 j (by omega)).1, (g3 j (by omega)).2]; exact h1 j (by omega)
      · rw [g7, hS]; exact h2 i hi
      · rw [g8, hS]; exact h3
      · rw [g6]
    · rw [if_neg (nE0 (by omega) (by omega)), h3, iI_add, bnd_e]
      rw [if_neg hs] at hpp hgn
      have f5 : Fr (SG g) w (wr w g 0 4 (iI ((sg : Int) + 1))) := (Fr.rf _ w).wr _ rfl
      by_cases hp0 : p % 3 = 0
      · have ecp : X5_countPair (wr w g 0 4 (iI ((sg : Int) + 1))) g (iI ((p : Int) % 3)) (iI (s : Nat)) = some (wr w g 0 4 (iI ((sg : Int) + 1))) := by
          unfold X5_countPair
          rw [if_pos (yE0 (by omega))]
        rw [ecp, ob_s]
        obtain ⟨w', g1, g2, g3, g4, g5, g6, g7, g8⟩ := x_takeL (w := wr w g 0 4 (iI ((sg : Int) + 1))) (p' := p') (wt := wt) (SG_code f5 (by omega) hC) hk hg hk4 (show p < 15 by omega) hu (by rw [rd_o (by decide)]; exact hk1.2)
        rw [rnS_first e hs hp0] at hS
        rw [if_pos hp0] at hgn
        refine ⟨w', g1, f5.tr g2, Or.inl ⟨by rw [hS], fun j hj => ?_, fun i hi => ?_, ?_, ?_⟩⟩
        · by_cases hj2 : j = k + 1
          · subst hj2
            rw [g4, g5, hS, hgn]
            dsimp only
            rw [hpp]
            exact ⟨rfl, rfl⟩
          · rw [(g3 j (by omega)).1, (g3 j (by omega)).2, rd_o (by decide), rd_o (by decide)]; exact h1 j (by omega)
        · rw [g7, hS, rd_o (by decide)]; exact h2 i hi
        · rw [g8, hS, rd_eq]; dsimp only; congr 1
        · rw [g6]
      · rw [if_neg hp0] at hgn
        have hi : (p % 3 - 1) * 2 + (s - 1) < 4 := by omega
        rw [rnS_pair e hs hp0] at hS
        generalize hii : (p % 3 - 1) * 2 + (s - 1) = ii at hi hgn hS
        have ecp : X5_countPair (wr w g 0 4 (iI ((sg : Int) + 1))) g (iI ((p : Int) % 3)) (iI (s : Nat)) = some (wr (wr w g 0 4 (iI ((sg : Int) + 1))) g 3 ii (iI ((pr ii : Int) + 1))) := by
          unfold X5_countPair
          rw [if_neg (nE0 (by omega) (by omega)), bnd_e]
          have : X0_sortPair (iI ((p : Int) % 3)) (iI (s : Nat)) = iI (ii : Nat) := by
            unfold X0_sortPair
            rw [iI_sub, iI_mul, iI_add, iI_sub]; congr 1; omega
          rw [this, isPair_in hi, if_neg n10, ga_n hi (by decide), rd_o (by decide), h2 ii hi, pa_n hi (by decide), iI_add]
        rw [ecp, ob_s]
        have f6 : Fr (SG g) w (wr (wr w g 0 4 (iI ((sg : Int) + 1))) g 3 ii (iI ((pr ii : Int) + 1))) := f5.wr _ rfl
        obtain ⟨w', g1, g2, g3, g4, g5, g6, g7, g8⟩ := x_takeL (w := wr (wr w g 0 4 (iI ((sg : Int) + 1))) g 3 ii (iI ((pr ii : Int) + 1))) (p' := p') (wt := wt) (SG_code f6 (by omega) hC) hk hg hk4 (show p < 15 by omega) hu (by rw [rd_o (by decide), rd_o (by decide)]; exact hk1.2)
        refine ⟨w', g1, f6.tr g2, Or.inl ⟨by rw [hS], fun j hj => ?_, fun i hi2 => ?_, ?_, ?_⟩⟩
        · by_cases hj2 : j = k + 1
          · subst hj2
            rw [g4, g5, hS, hgn]
            dsimp only
            rw [hpp]
            exact ⟨rfl, rfl⟩
          · rw [(g3 j (by omega)).1, (g3 j (by omega)).2, rd_o (by decide), rd_o (by decide), rd_o (by decide), rd_o (by decide)]; exact h1 j (by omega)
        · rw [g7, hS]
          dsimp only
          by_cases ei : i = ii
          · subst ei; rw [rd_eq, if_pos rfl]; congr 1
          · rw [rd_j ei, rd_o (by decide), if_neg ei]; exact h2 i hi2
        · rw [g8, hS, rd_o (by decide), rd_eq]; dsimp only; congr 1
        · rw [g6]
theorem x_followLoop {w : Wd} {g : Nat} {C : Cd} {us : Nat → Nat} {cm : Nat} (hC : CodeX w (g - 4) C) (hk : cok C) (hg : 5 ≤ g) (hcm : cm ≤ 40) (hu : ∀ j, j < cm → us j < 8 ∧ rd w 0 2 j = iI (us j : Nat)) (K : Int32 → Wd → Option Wd) :
    ∀ d k fuel w1, k + d = cm → d < fuel → Fr (SG g) w w1 → XReg w1 g C us k → (rn C us k).1 = true → ∃ w2 k2, X5_follow_L47 fuel K g (iI (cm : Nat)) (iI (k : Nat)) w1 = K (iI (cm : Nat)) w2 ∧ Fr (SG g) w w2 ∧ k2 ≤ cm ∧ XReg w2 g C us k2 ∧ (rn C us k2).1 = true ∧ (k2 = cm ∨ (k2 < cm ∧ (rn C us (k2 + 1)).1 = false)) := by
  intro d
  induction d with
  | zero =>
    intro k fuel w1 hd hf h1 h2 ha
    obtain ⟨f, rfl⟩ : ∃ f, fuel = f + 1 := ⟨fuel - 1, by omega⟩
    rw [X5_follow_L47, if_pos (yL (by omega) (by omega) (by omega))]
    exact ⟨w1, k, rfl, h1, by omega, h2, ha, Or.inl (by omega)⟩
  | succ d ih =>
    intro k fuel w1 hd hf h1 h2 ha
    obtain ⟨f, rfl⟩ : ∃ f, fuel = f + 1 := ⟨fuel - 1, by omega⟩
    have hpl : (rn C us k).2.2.1 < 3 * ms C := rnF_pl hk (us := us) (f := 0) k (fun j hj => by rw [Nat.zero_add]; exact (hu j (by omega)).1)
    obtain ⟨w2, e1, e2, e3⟩ := x_take (SG_code h1 (by omega) hC) hk hg (by omega) (hu k (by omega)).1 h2 ha hpl
    rw [X5_follow_L47, if_neg (nL (by omega) (by omega) (by omega)), h2.2.2.2, if_pos rfl, ga_n (by omega) (by decide), h1.1 0 2 k (by unfold SG; omega), (hu k (by omega)).2, e1, ob_s, bnd_e, iI_add]
    rcases e3 with ⟨e3, e4⟩ | ⟨e3, e4⟩
    · exact ih (k + 1) f w2 (by omega) (by omega) (h1.tr e2) e4 e3
    · subst e4
      obtain ⟨f', rfl⟩ : ∃ f', f = f' + 1 := ⟨f - 1, by omega⟩
      rw [show ((k : Int) + 1) = ((k + 1 : Nat) : Int) by omega, X5_follow_L47]
      by_cases hc : cm = k + 1
      · rw [if_pos (yL (by omega) (by omega) (by omega))]
        exact ⟨w2, k, rfl, h1, by omega, h2, ha, Or.inr ⟨by omega, e3⟩⟩
      · rw [if_neg (nL (by omega) (by omega) (by omega)), h2.2.2.2, if_neg (nE (by omega) (by omega) (by omega))]
        exact ⟨w2, k, rfl, h1, by omega, h2, ha, Or.inr ⟨by omega, e3⟩⟩
theorem x_follow {w : Wd} {g : Nat} {C : Cd} {us : Nat → Nat} {cm : Nat} (hC : CodeX w (g - 4) C) (hk : cok C) (hg : 5 ≤ g) (hcm : cm ≤ 40) (hu : ∀ j, j < cm → us j < 8 ∧ rd w 0 2 j = iI (us j : Nat)) : ∃ w', X5_follow w g (iI (cm : Nat)) = some w' ∧ Fr (SG g) w w' ∧ ReadX w' g C us cm := by
  unfold X5_follow
  rw [bnd_e, pa_e (k := 0) (by omega) (by omega) (by decide), pa_e (k := 0) (by omega) (by omega) (by decide), bnd_e, bnd_e, bnd_e, imin_iI (by omega) (by decide), imin_iI (by omega) (by decide)]
  rw [show min (min (cm : Int) 40) 40 = ((cm : Nat) : Int) by omega]
  generalize hw5 : wr (wr (wr (wr (wfill w g 3 4 (iI 0)) g 1 0 (iI 0)) g 2 0 (iI 0)) g 0 4 (iI 0)) g 0 5 (iI 0) = w5
  have f5 : Fr (SG g) w w5 := by
    rw [← hw5]
    have f0 : Fr (SG g) w (wfill w g 3 4 (iI 0)) := ⟨fun a b j h => by rw [rd_fill, if_neg (fun z => h z.1)], rfl⟩
    exact (((f0.wr _ rfl).wr _ rfl).wr _ rfl).wr _ rfl
  have x5 : XReg w5 g C us 0 := by
    rw [← hw5]
    refine ⟨fun j hj => ?_, fun i hi => ?_, ?_, ?_⟩
    · obtain rfl : j = 0 := by omega
      refine ⟨?_, ?_⟩
      · rw [rd_o (by decide), rd_o (by decide), rd_o (by decide), rd_eq]; rfl
      · rw [rd_o (by decide), rd_o (by decide), rd_eq]; rfl
    · rw [rd_o (by decide), rd_o (by decide), rd_o (by decide), rd_o (by decide), rd_fill, if_pos ⟨rfl, rfl, hi⟩]; rfl
    · rw [rd_j (by decide), rd_eq]; rfl
    · rw [rd_eq]; rfl
  clear hw5
  obtain ⟨w2, k2, e1, e2, e3, e4, e5, e6⟩ := x_followLoop hC hk hg hcm hu (X5_follow_L78 g) cm 0 1000 w5 (by omega) (by omega) f5 x5 rfl
  rw [show (iI 0 : Int32) = iI ((0 : Nat) : Int) from rfl, e1]
  have hst := rnF_stood hk (us := us) (f := 0) (k := cm) (fun j hj => by rw [Nat.zero_add]; exact (hu j hj).1)
  have hsd : (rn C us cm).2.1 = k2 := by
    rcases e6 with e6 | ⟨e6, e7⟩
    · subst e6
      exact (rnF_bd hk k2 (fun j hj => by rw [Nat.zero_add]; exact (hu j hj).1)).2.2.2 e5
    · have a1 := (hst k2 (by omega)).mp e5
      have a2 : ¬ k2 + 1 ≤ (rnF C us 0 cm).2.1 := fun q => by have := (hst (k2 + 1) (by omega)).mpr q; rw [e7] at this; cases this
      show (rnF C us 0 cm).2.1 = k2
      omega
  have hrn : ((rn C us cm).2.2 = (rn C us k2).2.2) := by
    rcases e6 with e6 | ⟨e6, e7⟩
    · rw [e6]
    · have hf := rnF_frozen e7 (cm - (k2 + 1))
      rw [show k2 + 1 + (cm - (k2 + 1)) = cm by omega] at hf
      show (rnF C us 0 cm).2.2 = _
      rw [hf]
      show (rn C us (k2 + 1)).2.2 = _
      have e7' : (rn C us (k2 + 1)).1 = false := e7
      rw [rn_succ] at e7' ⊢
      revert e5 e7'
      generalize rn C us k2 = r
      obtain ⟨a, sd, p, sg, wt, pr⟩ := r
      intro e5 e7'
      dsimp only at e5
      subst e5
      cases et : trc C (p / 3) (us k2) with
      | none => rw [rnS_none et]
      | some q =>
        obtain ⟨m', s⟩ := q
        by_cases hs : s = 0
        · subst hs; rw [rnS_zero et] at e7'; cases e7'
        · by_cases hp : p % 3 = 0
          · rw [rnS_first et hs hp] at e7'; cases e7'
          · rw [rnS_pair et hs hp] at e7'; cases e7'
  have hal : (rn C us cm).1 = true ↔ k2 = cm := by
    have := hst cm (Nat.le_refl _)
    show (rnF C us 0 cm).1 = true ↔ _
    rw [this]
    have : (rnF C us 0 cm).2.1 = k2 := hsd
    omega
  obtain ⟨x1, x2, x3, x4⟩ := e4
  unfold X5_follow_L78
  rw [x4]
  have key : ReadX (wr w2 g 0 6 (if (rn C us cm).1 = true then iI 1 else iI 0)) g C us cm := by
    refine ⟨fun k hk1 hk2 => ?_, fun i hi => ?_, ?_, ?_, ?_⟩
    · have : k ≤ k2 := by
        have := (hst k hk1).mp hk2
        have h9 : (rnF C us 0 cm).2.1 = k2 := hsd
        omega
      rw [rd_o (by decide), rd_o (by decide)]
      exact x1 k this
    · rw [rd_o (by decide), hrn]; exact x2 i hi
    · rw [rd_j (by decide), hrn]; exact x3
    · rw [rd_j (by decide), hsd]; exact x4
    · rw [rd_eq]
  by_cases hc : k2 = cm
  · have := key
    rw [if_pos (hal.mpr hc)] at this
    rw [if_pos (yE (by omega)), bnd_e]
    exact ⟨_, rfl, e2.wr _ rfl, this⟩
  · have := key
    rw [if_neg (fun q => hc (hal.mp q))] at this
    rw [if_neg (nE (by omega) (by omega) (by omega)), bnd_e]
    exact ⟨_, rfl, e2.wr _ rfl, this⟩

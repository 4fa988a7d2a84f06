/-! The best division: the class. -/
theorem rnS_nx {C : Cd} {u sd p sg wt : Nat} {pr : Nat → Nat} : (nx C p u = none → rnS C u (true, sd, p, sg, wt, pr) = (false, sd, p, sg, wt, pr) ∧ gn C p u = 0) ∧ (∀ p', nx C p u = some p' → (rnS C u (true, sd, p, sg, wt, pr)).1 = true ∧ (rnS C u (true, sd, p, sg, wt, pr)).2.2.1 = p' ∧ (rnS C u (true, sd, p, sg, wt, pr)).2.2.2.2.1 = wt + gn C p u) := by
  cases e : trc C (p / 3) u with
  | none =>
    have e1 : nx C p u = none := by unfold nx; rw [e]
    have e2 : gn C p u = 0 := by unfold gn; rw [e]
    exact ⟨fun _ => ⟨rnS_none e, e2⟩, fun p' h => by rw [e1] at h; cases h⟩
  | some q =>
    obtain ⟨m', s⟩ := q
    by_cases hs : s = 0
    · subst hs
      have e1 : nx C p u = some (3 * m' + p % 3) := by unfold nx; rw [e]; rfl
      have e2 : gn C p u = 0 := by unfold gn; rw [e]; rfl
      rw [rnS_zero e, e1, e2]
      exact ⟨fun h => (by cases h), fun p' h => (by cases h; exact ⟨rfl, rfl, rfl⟩)⟩
    · have e1 : nx C p u = some (3 * m' + s) := by unfold nx; rw [e]; simp [hs]
      by_cases hp : p % 3 = 0
      · have e2 : gn C p u = 0 := by unfold gn; rw [e]; simp [hp]
        rw [rnS_first e hs hp, e1, e2]
        exact ⟨fun h => (by cases h), fun p' h => (by cases h; exact ⟨rfl, rfl, rfl⟩)⟩
      · have e2 : gn C p u = C.2.2.2 ((p % 3 - 1) * 2 + (s - 1)) := by unfold gn; rw [e]; simp [hs, hp]
        rw [rnS_pair e hs hp, e1, e2]
        exact ⟨fun h => (by cases h), fun p' h => (by cases h; exact ⟨rfl, rfl, rfl⟩)⟩
theorem cuL_dead {C : Cd} {us : Nat → Nat} {T : Nat → En} {size b c k : Nat} {cur : En} (h : (rnF C us b k).1 = false) : ∀ d, cuL C us T size b c (k + d) cur = cuL C us T size b c k cur := by
  intro d
  induction d with
  | zero => rfl
  | succ d ih =>
    show (if rVal (rnF C us b (k + d + 1)) = true then _ else cuL C us T size b c (k + d) cur) = _
    have hf := rnF_frozen h (d + 1)
    rw [if_neg (by rw [show k + d + 1 = k + (d + 1) by omega, hf]; unfold rVal; rw [h]; simp), ih]
/-- an entry leads to another that has one piece fewer -/
def EnC (T : Nat → En) (size b : Nat) (e : En) : Prop := ∀ wo pc en cd wt, e = some (wo, pc, en, cd, wt) → b < size → ∃ t, T en = some t ∧ pc = t.2.1 + 1
theorem tp_c {T : Nat → En} {size b en cd wt : Nat} {cur : En} (h : EnC T size b cur) : EnC T size b (tp T size en cd wt cur) := by
  unfold tp
  cases e : T en with
  | none => exact h
  | some t =>
    dsimp only
    generalize (wt : Int) + t.1 - (if en < size then 7 else 0) = wo'
    split
    · intro wo pc en' cd' wt' heq _
      cases heq
      exact ⟨t, e, rfl⟩
    · exact h
theorem cuL_c {C : Cd} {us : Nat → Nat} {T : Nat → En} {size b c : Nat} : ∀ k cur, EnC T size b cur → EnC T size b (cuL C us T size b c k cur) := by
  intro k
  induction k with
  | zero => intro cur h; exact h
  | succ k ih =>
    intro cur h
    unfold cuL
    split
    · exact tp_c (ih cur h)
    · exact ih cur h
theorem ccL_c {C : Nat → Cd} {us : Nat → Nat} {T : Nat → En} {size b : Nat} : ∀ c, EnC T size b (ccL C us T size b c) := by
  intro c
  induction c with
  | zero => intro wo pc en cd wt h; cases h
  | succ c ih => exact cuL_c _ _ ih
theorem tb_keep (C : Nat → Cd) (us : Nat → Nat) (n size : Nat) : ∀ d d2 b, size ≤ b + d → tb C us n size (d + d2) b = tb C us n size d b := by
  intro d d2
  induction d2 with
  | zero => intro b _; rfl
  | succ d2 ih =>
    intro b hb
    show (if b + (d + d2 + 1) = size then _ else tb C us n size (d + d2) b) = _
    by_cases e : b + (d + d2 + 1) = size
    · omega
    · rw [if_neg e]; exact ih b hb
theorem tb_c (C : Nat → Cd) (us : Nat → Nat) (n size : Nat) {b : Nat} (hb : b < size) : EnC (tb C us n size size) size b (tb C us n size size b) := by
  have h1 : tb C us n size size b = tb C us n size (size - b) b := by
    have := tb_keep C us n size (size - b) b b (by omega)
    rw [show size - b + b = size by omega] at this
    exact this
  have h2 : tb C us n size (size - b) b = ccL C us (tb C us n size (size - b - 1)) size b n := by
    have : tb C us n size (size - b - 1 + 1) b = ccL C us (tb C us n size (size - b - 1)) size b n := by
      show (if b + (size - b - 1 + 1) = size then _ else _) = _
      rw [if_pos (by omega)]
    rw [show size - b - 1 + 1 = size - b by omega] at this
    exact this
  rw [h1, h2]
  intro wo pc en cd wt he hlt
  obtain ⟨t, e1, e2⟩ := ccL_c (C := C) (us := us) (T := tb C us n size (size - b - 1)) (size := size) (b := b) n wo pc en cd wt he hlt
  refine ⟨t, ?_, e2⟩
  -- the entry that it leads to lies behind b: it is known already
  by_cases hen : size ≤ en + (size - b - 1)
  · have := tb_keep C us n size (size - b - 1) (b + 1) en hen
    rw [show size - b - 1 + (b + 1) = size by omega] at this
    rw [this]; exact e1
  · exfalso
    have none : ∀ d b', size > b' + d → tb C us n size d b' = none := by
      intro d
      induction d with
      | zero => intro b' h; show (if b' = size then _ else _) = _; rw [if_neg (by omega)]
      | succ d ih => intro b' h; show (if b' + (d + 1) = size then _ else tb C us n size d b') = _; rw [if_neg (by omega)]; exact ih b' (by omega)
    rw [none (size - b - 1) en (by omega)] at e1
    cases e1
def SD (g _o _j : Nat) : Prop := g = 11
section XCUTS
variable {w : Wd} {cm ln n : Nat} {us : Nat → Nat} {C : Nat → Cd}
theorem x_tryPieces (h : XC w cm ln n us C) {c b : Nat} (hc : c < n) (hb : b < cm) {T : Nat → En} {cur : En} (hTok : ∀ e, b < e → e ≤ cm → EnOK cm e (T e)) :
    ∀ d k fuel w1, k + d = cm - b → d < fuel → Fr SD w w1 → (∀ e, b < e → e ≤ cm → EX2 w1 e (T e)) → EX w1 b (cuL (C c) us T cm b c k cur) → EnOK cm b (cuL (C c) us T cm b c k cur) → ∃ w', X1_tryPieces_L10 fuel (c + 1) (iI (c : Nat)) (iI (b : Nat)) (iI (cm : Nat)) (if (rnF (C c) us b k).1 = true then iI ((rnF (C c) us b k).2.2.1 : Nat) else iI (-1)) (iI ((rnF (C c) us b k).2.2.2.2.1 : Nat)) (iI ((b + k : Nat) : Int)) w1 = some w' ∧ Fr (SDx b) w1 w' ∧ EX w' b (cuL (C c) us T cm b c (cm - b) cur) := by
  obtain ⟨h1, h2, h3, h4, h5, h6, h7, h8, h9⟩ := h
  obtain ⟨hk, cx, -⟩ := h9 c hc
  have hms := ms_le (C c)
  intro d
  induction d with
  | zero =>
    intro k fuel w1 hd hf f1 hT hE hok
    obtain ⟨f', rfl⟩ : ∃ f', fuel = f' + 1 := ⟨fuel - 1, by omega⟩
    obtain rfl : k = cm - b := by omega
    rw [X1_tryPieces_L10, if_pos (yL (by omega) (by omega) (by omega))]
    exact ⟨w1, rfl, Fr.rf _ w1, hE⟩
  | succ d ih =>
    intro k fuel w1 hd hf f1 hT hE hok
    obtain ⟨f', rfl⟩ : ∃ f', fuel = f' + 1 := ⟨fuel - 1, by omega⟩
    rw [X1_tryPieces_L10, if_neg (nL (by omega) (by omega) (by omega))]
    cases ea : (rnF (C c) us b k).1 with
    | false =>
      rw [if_neg (show ¬ false = true by decide), if_pos rfl]
      refine ⟨w1, rfl, Fr.rf _ w1, ?_⟩
      have := cuL_dead (T := T) (size := cm) (c := c) (cur := cur) ea (cm - b - k)
      rw [show k + (cm - b - k) = cm - b by omega] at this
      rw [this]; exact hE
    | true =>
      have hpl := rnF_pl hk (us := us) (f := b) k (fun j hj => (h8 _ (by omega)).1)
      have hbd := rnF_bd hk (us := us) (f := b) (k + 1) (fun j hj => (h8 _ (by omega)).1)
      have hS : rnF (C c) us b (k + 1) = rnS (C c) (us (b + k)) (rnF (C c) us b k) := rfl
      have eC : cuL (C c) us T cm b c (k + 1) cur = if rVal (rnF (C c) us b (k + 1)) = true then tp T cm (b + (k + 1)) c (rnF (C c) us b (k + 1)).2.2.2.2.1 (cuL (C c) us T cm b c k cur) else cuL (C c) us T cm b c k cur := rfl
      have hok2 : EnOK cm b (cuL (C c) us T cm b c (k + 1) cur) := by
        rw [eC]
        split
        · exact tp_ok (hTok _ (by omega) (by omega)) (by omega) (by omega) (by omega) (by omega) hok
        · exact hok
      have ih := ih (k + 1) f'
      revert ea hpl hS ih eC hbd hok2
      generalize hr' : rnF (C c) us b (k + 1) = r'
      generalize hr : rnF (C c) us b k = r
      obtain ⟨a, sd, p, sg, wt, pr⟩ := r
      intro ea hpl hbd hS eC hok2 ih
      dsimp only at ea hpl
      subst ea
      dsimp only
      have cx1 : CodeX w1 (c + 1) (C c) := cx.fr (fun o j _ => f1.1 _ o j (by unfold SD; omega))
      have hub := (h8 (b + k) (by omega))
      rw [if_pos rfl, if_neg (nE (by omega) (by omega) (by omega)), ga_n (by omega) (by decide), f1.1 0 2 _ (by unfold SD; omega), hub.2, x_gain cx1 (by omega) hub.1, ob_s, bnd_e, ga_n (by omega) (by decide), f1.1 0 2 _ (by unfold SD; omega), hub.2, x_nextState cx1 (by omega) hub.1, ob_s]
      simp only [bnd_e, iI_add]
      have nxl := rnS_nx (C := C c) (u := us (b + k)) (sd := sd) (p := p) (sg := sg) (wt := wt) (pr := pr)
      rw [← hS] at nxl
      cases en : nx (C c) p (us (b + k)) with
      | none =>
        obtain ⟨e1, e2⟩ := nxl.1 en
        rw [show oE none = iI (-1) from rfl, if_pos rfl, e2]
        have rv : ¬ rVal r' = true := by rw [e1]; unfold rVal; simp
        rw [if_neg rv] at eC
        rw [e1] at ih
        have := ih w1 (by omega) (by omega) f1 hT (by rw [eC]; exact hE) (by rw [eC]; exact hok)
        rw [if_neg (show ¬ false = true by decide)] at this
        exact this
      | some p' =>
        obtain ⟨e1, e2, e3⟩ := nxl.2 p' en
        obtain ⟨np, -⟩ := nx_lt hk hub.1 en
        rw [show oE (some p') = iI (p' : Nat) from rfl, if_neg (nE (by omega) (by omega) (by omega))]
        have hmo : X0_modeOf (iI (p' : Nat)) = iI ((p' / 3 : Nat) : Int) := by
          unfold X0_modeOf
          rw [iI_div (by omega) (by omega) (by decide) (by decide)]; congr 1
        rw [hmo]
        rw [e1, e2, e3, if_pos rfl] at ih
        have hidx : ((b + k : Nat) : Int) + 1 = ((b + (k + 1) : Nat) : Int) := by omega
        have hwt : (wt : Int) + (gn (C c) p (us (b + k)) : Nat) = ((wt + gn (C c) p (us (b + k)) : Nat) : Int) := by omega
        rw [hidx, hwt]
        by_cases hm : p' / 3 = 0
        · have rv : rVal r' = true := by unfold rVal; rw [e1, e2]; simp [hm]
          rw [if_pos rv] at eC
          rw [if_pos (yE0 (by omega))]
          rw [e3] at eC hbd
          obtain ⟨w2, g1, g2, g3⟩ := x_tryPiece (w := w1) (T := T) (b := b) (size := cm) (en := b + (k + 1)) (cd := c) (wt := wt + gn (C c) p (us (b + k))) (by omega) (by omega) (by omega) (by omega) (by omega) (hT _ (by omega) (by omega)) (hTok _ (by omega) (by omega)) hE hok
          rw [g1, ob_s]
          obtain ⟨w3, k1, k2, k3⟩ := ih w2 (by omega) (by omega) (f1.tr (g2.mono (fun g o j hh => hh.1))) (fun e x y => (hT e x y).fr (fun o => g2.1 _ _ _ (by unfold SDx; omega))) (by rw [eC]; exact g3) hok2
          exact ⟨w3, k1, g2.tr k2, k3⟩
        · have rv : ¬ rVal r' = true := by unfold rVal; rw [e1, e2]; simp [hm]
          rw [if_neg rv] at eC
          rw [if_neg (nE0 (by omega) (by omega))]
          exact ih w1 (by omega) (by omega) f1 hT (by rw [eC]; exact hE) (by rw [eC]; exact hok)
theorem x_codes (h : XC w cm ln n us C) {b : Nat} (hb : b < cm) {T : Nat → En} (hTok : ∀ e, b < e → e ≤ cm → EnOK cm e (T e)) (K : Int32 → Int32 → Int32 → Wd → Option (Int32 × Wd)) :
    ∀ d c fuel w1, c + d = n → d < fuel → Fr SD w w1 → (∀ e, b < e → e ≤ cm → EX2 w1 e (T e)) → EX w1 b (ccL C us T cm b c) → ∃ w', X1_divide_L52 fuel K (iI (n : Nat)) (iI (cm : Nat)) (iI (b : Nat)) (iI (c : Nat)) w1 = K (iI (n : Nat)) (iI (cm : Nat)) (iI (b : Nat)) w' ∧ Fr (SDx b) w1 w' ∧ EX w' b (ccL C us T cm b n) := by
  have hh := h
  obtain ⟨h1, h2, h3, h4, h5, h6, h7, h8, h9⟩ := h
  intro d
  induction d with
  | zero =>
    intro c fuel w1 hd hf f1 hT hE
    obtain ⟨f', rfl⟩ : ∃ f', fuel = f' + 1 := ⟨fuel - 1, by omega⟩
    obtain rfl : c = n := by omega
    rw [X1_divide_L52, if_pos (yL (by omega) (by omega) (by omega))]
    exact ⟨w1, rfl, Fr.rf _ w1, hE⟩
  | succ d ih =>
    intro c fuel w1 hd hf f1 hT hE
    obtain ⟨f', rfl⟩ : ∃ f', fuel = f' + 1 := ⟨fuel - 1, by omega⟩
    have hok := ccL_ok (C := C) (us := us) (T := T) (size := cm) (b := b) (n := n) h1 (fun c hc => (h9 c hc).1) (by omega) (fun j hj => (h8 j hj).1) hTok c (by omega)
    obtain ⟨w2, e1, e2, e3⟩ := x_tryPieces hh (show c < n by omega) hb (cur := ccL C us T cm b c) hTok (cm - b) 0 1000 w1 (by omega) (by omega) f1 hT hE hok
    rw [X1_divide_L52, if_neg (nL (by omega) (by omega) (by omega)), if_neg (nL (by omega) (by omega) (by omega)), ix_n (by omega) (by decide)]
    unfold X1_tryPieces
    have e1' : X1_tryPieces_L10 1000 (c + 1) (iI (c : Nat)) (iI (b : Nat)) (iI (cm : Nat)) (iI 0) (iI 0) (iI (b : Nat)) w1 = some w2 := e1
    rw [e1', ob_s, bnd_e, iI_add]
    obtain ⟨w3, k1, k2, k3⟩ := ih (c + 1) f' w2 (by omega) (by omega) (f1.tr (e2.mono (fun g o j hh => hh.1))) (fun e x y => (hT e x y).fr (fun o => e2.1 _ _ _ (by unfold SDx; omega))) e3
    exact ⟨w3, k1, e2.tr k2, k3⟩
/-- the table as the class holds it, from place lo on -/
def DX (w : Wd) (T : Nat → En) (lo size : Nat) : Prop := (∀ j, lo ≤ j → j < size → EX w j (T j)) ∧ EX2 w size (T size)
theorem x_divL (h : XC w cm ln n us C) (K : Wd → Option (Int32 × Wd)) :
    ∀ e d fuel w1, d + e = cm → e < fuel → Fr SD w w1 → DX w1 (tb C us n cm d) (cm - d) cm → ∃ w', X1_divide_L36 fuel K (iI (n : Nat)) (iI (cm : Nat)) (iI ((cm : Int) - 1 - d)) w1 = K w' ∧ Fr SD w w' ∧ DX w' (tb C us n cm cm) 0 cm := by
  have hh := h
  obtain ⟨h1, h2, h3, h4, h5, h6, h7, h8, h9⟩ := h
  intro e
  induction e with
  | zero =>
    intro d fuel w1 hd hf f1 hD
    obtain ⟨f', rfl⟩ : ∃ f', fuel = f' + 1 := ⟨fuel - 1, by omega⟩
    obtain rfl : d = cm := by omega
    rw [X1_divide_L36, if_pos (yT0 (by omega) (by omega))]
    exact ⟨w1, rfl, f1, by rw [show d - d = 0 by omega] at hD; exact hD⟩
  | succ e ih =>
    intro d fuel w1 hd hf f1 hD
    obtain ⟨f', rfl⟩ : ∃ f', fuel = f' + 1 := ⟨fuel - 1, by omega⟩
    generalize hb : cm - 1 - d = b
    have hbi : (cm : Int) - 1 - d = (b : Nat) := by omega
    rw [X1_divide_L36, hbi, if_neg (nT0 (by omega) (by omega)), pa_n (by omega) (by decide)]
    have tok := tb_ok (C := C) (us := us) (n := n) (size := cm) h1 (fun c hc => (h9 c hc).1) (fun j hj => (h8 j hj).1) d (by omega)
    have tE2 : ∀ j, b < j → j ≤ cm → EX2 w1 j (tb C us n cm d j) := by
      intro j hj hj2
      by_cases ej : j = cm
      · subst ej; exact hD.2
      · exact (hD.1 j (by omega) (by omega)).to2
    have f2 : Fr (SDx b) w1 (wr w1 11 2 b (iI (-1))) := (Fr.rf _ w1).wr _ ⟨rfl, rfl⟩
    obtain ⟨w3, k1, k2, k3⟩ := x_codes hh (b := b) (by omega) (T := tb C us n cm d) (fun j x y => tok j y) (X1_divide_L86 (X1_divide_L36 f' K)) n 0 1000 (wr w1 11 2 b (iI (-1))) (by omega) (by omega) (f1.tr (f2.mono (fun g o j hh => hh.1))) (fun j x y => (tE2 j x y).fr (fun o => f2.1 _ _ _ (by unfold SDx; omega))) (show rd (wr w1 11 2 b (iI (-1))) 11 2 b = iI (-1) from rd_eq)
    rw [show (iI 0 : Int32) = iI ((0 : Nat) : Int) from rfl, k1]
    unfold X1_divide_L86
    rw [bnd_e, iI_add, show (b : Int) + -1 = (cm : Int) - 1 - ((d + 1 : Nat) : Int) by omega]
    have f3 : Fr (SDx b) w1 w3 := f2.tr k2
    refine ih (d + 1) f' w3 (by omega) (by omega) (f1.tr (f3.mono (fun g o j hh => hh.1))) ⟨fun j hj hj2 => ?_, ?_⟩
    · show EX w3 j (if j + (d + 1) = cm then ccL C us (tb C us n cm d) cm j n else tb C us n cm d j)
      by_cases ej : j = b
      · subst ej; rw [if_pos (by omega)]; exact k3
      · rw [if_neg (by omega)]; exact (hD.1 j (by omega) hj2).fr (fun o => f3.1 _ _ _ (by unfold SDx; omega))
    · show EX2 w3 cm (if cm + (d + 1) = cm then _ else tb C us n cm d cm)
      rw [if_neg (by omega)]; exact hD.2.fr (fun o => f3.1 _ _ _ (by unfold SDx; omega))
theorem x_divide (h : XC w cm ln n us C) : ∃ w', X1_divide w (iI (n : Nat)) (iI (cm : Nat)) = some (bE (tb C us n cm cm 0).isSome, w') ∧ Fr SD w w' ∧ DX w' (tb C us n cm cm) 0 cm := by
  have hh := h
  obtain ⟨h1, h2, h3, h4, h5, h6, h7, h8, h9⟩ := h
  unfold X1_divide
  rw [imin_iI (by omega) (by decide), imin_iI (by omega) (by decide), show min (min (cm : Int) 40) 40 = ((cm : Nat) : Int) by omega, bnd_e, pa_n (by omega) (by decide), pa_n (by omega) (by decide), bnd_e, iI_sub]
  have f1 : Fr SD w (wr (wr w 11 1 cm (iI 0)) 11 2 cm (iI 0)) := ((Fr.rf _ w).wr _ rfl).wr _ rfl
  obtain ⟨w2, e1, e2, e3⟩ := x_divL hh X1_divide_L92 cm 0 1000 (wr (wr w 11 1 cm (iI 0)) 11 2 cm (iI 0)) (by omega) (by omega) f1 ⟨fun j a b => by omega, by
    show EX2 _ cm (if cm = cm then some (0, 0, 0, 0, 0) else none)
    rw [if_pos rfl]
    exact ⟨by rw [rd_o (by decide), rd_eq], rd_eq⟩⟩
  have e1' : X1_divide_L36 1000 X1_divide_L92 (iI (n : Nat)) (iI (cm : Nat)) (iI ((cm : Int) - 1)) (wr (wr w 11 1 cm (iI 0)) 11 2 cm (iI 0)) = X1_divide_L92 w2 := by
    have : (cm : Int) - 1 - ((0 : Nat) : Int) = (cm : Int) - 1 := by omega
    rw [this] at e1; exact e1
  rw [e1']
  unfold X1_divide_L92
  rw [ga_e (k := 0) (by omega) (by omega) (by decide)]
  have tok := tb_ok (C := C) (us := us) (n := n) (size := cm) h1 (fun c hc => (h9 c hc).1) (fun j hj => (h8 j hj).1) cm (by omega) 0 (by omega)
  have t2 : EX2 w2 0 (tb C us n cm cm 0) := by
    by_cases z : cm = 0
    · subst z; exact e3.2
    · exact (e3.1 0 (by omega) (by omega)).to2
  refine ⟨w2, ?_, e2, e3⟩
  cases e : tb C us n cm cm 0 with
  | none =>
    rw [e] at t2
    have : rd w2 11 2 0 = iI (-1) := t2
    rw [this, if_pos rfl]; rfl
  | some t =>
    obtain ⟨wo, pc, en, cd, wt⟩ := t
    rw [e] at t2 tok
    obtain ⟨o1, o2, o3, -, -, -⟩ := tok _ _ _ _ _ rfl
    rw [t2.2, if_neg (nE (by dsimp only; omega) (by dsimp only; omega) (by omega))]; rfl
end XCUTS

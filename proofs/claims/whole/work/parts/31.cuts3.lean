/-! The best division: the reference. -/
def EM2 (w : Wd) (b : Nat) (e : En) : Prop := match e with
  | none => rd w 12 16 b = iI (-100000)
  | some t => rd w 12 16 b = iI t.1 ∧ rd w 12 17 b = iI (t.2.1 : Nat)
def EM (w : Wd) (b : Nat) (e : En) : Prop := match e with
  | none => rd w 12 16 b = iI (-100000)
  | some t => rd w 12 16 b = iI t.1 ∧ rd w 12 17 b = iI (t.2.1 : Nat) ∧ rd w 12 18 b = iI (t.2.2.1 : Nat) ∧ rd w 12 19 b = iI (t.2.2.2.1 : Nat) ∧ rd w 12 20 b = iI (t.2.2.2.2 : Nat)
theorem EM.to2 {w : Wd} {b : Nat} {e : En} (h : EM w b e) : EM2 w b e := by
  cases e with
  | none => exact h
  | some t => exact ⟨h.1, h.2.1⟩
theorem EM.fr {w w' : Wd} {b : Nat} {e : En} (h : EM w b e) (f : ∀ o, 16 ≤ o → o ≤ 20 → rd w' 12 o b = rd w 12 o b) : EM w' b e := by
  cases e with
  | none => show rd w' 12 16 b = _; rw [f _ (by decide) (by decide)]; exact h
  | some t => exact ⟨by rw [f _ (by decide) (by decide)]; exact h.1, by rw [f _ (by decide) (by decide)]; exact h.2.1, by rw [f _ (by decide) (by decide)]; exact h.2.2.1, by rw [f _ (by decide) (by decide)]; exact h.2.2.2.1, by rw [f _ (by decide) (by decide)]; exact h.2.2.2.2⟩
theorem EM2.fr {w w' : Wd} {b : Nat} {e : En} (h : EM2 w b e) (f : ∀ o, 16 ≤ o → o ≤ 20 → rd w' 12 o b = rd w 12 o b) : EM2 w' b e := by
  cases e with
  | none => show rd w' 12 16 b = _; rw [f _ (by decide) (by decide)]; exact h
  | some t => exact ⟨by rw [f _ (by decide) (by decide)]; exact h.1, by rw [f _ (by decide) (by decide)]; exact h.2⟩
theorem m_L37 {w : Wd} {b size : Nat} {cur : En} (hs : size ≤ 40) (hb : b < size) (h : EM w b cur) (hok : EnOK size b cur) {wo t0 t1 : Int} (e : t1 - t0 = wo) (hwo : -1000 ≤ wo ∧ wo ≤ 1000) {pc p1 en cd : Nat} (hpc : pc = p1 + 1) (hp1 : pc < 1000) (hen : en < 41) (hcd : cd < 1000) (h17 : rd w 12 17 en = iI (p1 : Nat)) :
    X7_tryPiece_L37 (iI (b : Nat)) (iI (en : Nat)) (iI (cd : Nat)) (iI t0) (iI t1) w = if bet wo pc en cd cur = true then X7_tryPiece_L181 (iI (b : Nat)) (iI (en : Nat)) (iI (cd : Nat)) (iI wo) (iI (pc : Nat)) w else some w := by
  have h41 : b < 41 := by omega
  unfold X7_tryPiece_L37
  rw [iI_sub, bnd_e, e, ga_n hen (by decide), h17, iI_add, bnd_e, show (1 : Int) + (p1 : Nat) = ((pc : Nat) : Int) by omega]
  unfold X7_tryPiece_L97 X7_tryPiece_L136 X7_tryPiece_L171
  simp only [ga_n h41 (show (41 : Nat) < 2147483648 by decide)]
  cases cur with
  | none =>
    have hl : rd w 12 16 b = iI (-100000) := h
    rw [hl]
    simp only [if_neg (nE (a := wo) (b := -100000) (by omega) (by omega) (by omega))]
    rw [if_pos (yT (by omega) (by omega) (by omega))]
    rfl
  | some t =>
    obtain ⟨w1, q1, e1, c1, t1'⟩ := t
    obtain ⟨a1, a2, a3, a4, a5⟩ := h
    obtain ⟨o1, o2, o3, o4, o5, o6⟩ := hok _ _ _ _ _ rfl
    have o4 := o4 hb
    dsimp only at a1 a2 a3 a4 a5
    rw [a1, a2, a3, a4]
    have hbet : ∀ x : Bool, (x = true ↔ (w1 < wo ∨ (wo = w1 ∧ (pc < q1 ∨ (pc = q1 ∧ (en < e1 ∨ (en = e1 ∧ cd < c1))))))) → bet wo pc en cd (some (w1, q1, e1, c1, t1')) = x := by
      intro x hx
      unfold bet
      dsimp only
      cases x with
      | true => exact decide_eq_true (hx.mp rfl)
      | false => exact decide_eq_false (fun q => by have := hx.mpr q; cases this)
    by_cases z1 : wo = w1
    · simp only [if_pos (yE z1), if_neg (nT (a := w1) (b := wo) (by omega) (by omega) (by omega))]
      by_cases z2 : pc = q1
      · simp only [if_pos (yE (show ((pc : Nat) : Int) = ((q1 : Nat) : Int) by omega)), if_neg (nT (a := (pc : Nat)) (b := (q1 : Nat)) (by omega) (by omega) (by omega))]
        by_cases z3 : en = e1
        · simp only [if_pos (yE (show ((en : Nat) : Int) = ((e1 : Nat) : Int) by omega)), if_pos (yL (a := (e1 : Nat)) (b := (en : Nat)) (by omega) (by omega) (by omega))]
          by_cases z4 : c1 ≤ cd
          · rw [if_pos (yL (by omega) (by omega) (by omega)), hbet false (by simp; omega)]; rfl
          · rw [if_neg (nL (by omega) (by omega) (by omega)), hbet true (by simp; omega)]; rfl
        · simp only [if_neg (nE (a := (en : Nat)) (b := (e1 : Nat)) (by omega) (by omega) (by omega))]
          by_cases z4 : e1 ≤ en
          · rw [if_pos (yL (by omega) (by omega) (by omega)), hbet false (by simp; omega)]; rfl
          · rw [if_neg (nL (by omega) (by omega) (by omega)), hbet true (by simp; omega)]; rfl
      · simp only [if_neg (nE (a := (pc : Nat)) (b := (q1 : Nat)) (by omega) (by omega) (by omega))]
        by_cases z4 : pc < q1
        · rw [if_pos (yT (by omega) (by omega) (by omega)), hbet true (by simp; omega)]; rfl
        · rw [if_neg (nT (by omega) (by omega) (by omega)), hbet false (by simp; omega)]; rfl
    · simp only [if_neg (nE (a := wo) (b := w1) (by omega) (by omega) (by omega))]
      by_cases z4 : w1 < wo
      · rw [if_pos (yT (by omega) (by omega) (by omega)), hbet true (by simp; omega)]; rfl
      · rw [if_neg (nT (by omega) (by omega) (by omega)), hbet false (by simp; omega)]; rfl
def SMx (b : Nat) : Nat → Nat → Nat → Prop := fun g o j => g = 12 ∧ 16 ≤ o ∧ o ≤ 20 ∧ j = b
theorem m_tryPiece {w : Wd} {T : Nat → En} {b size en cd wt : Nat} {cur : En} (hs : size ≤ 40) (hb : b < en) (he : en ≤ size) (hcd : cd < 4) (hwt : wt ≤ 9 * (en - b)) (h8 : rd w 12 0 8 = iI (size : Nat)) (h17 : rd w 12 0 17 = iI (wt : Nat)) (hT : EM2 w en (T en)) (hTok : EnOK size en (T en)) (hc : EM w b cur) (hcok : EnOK size b cur) :
    ∃ w', X7_tryPiece w (iI (b : Nat)) (iI (en : Nat)) (iI (cd : Nat)) = some w' ∧ Fr (SMx b) w w' ∧ EM w' b (tp T size en cd wt cur) := by
  unfold X7_tryPiece tp
  rw [ga_n (by omega) (by decide)]
  cases e : T en with
  | none =>
    rw [e] at hT
    have : rd w 12 16 en = iI (-100000) := hT
    rw [this, if_pos rfl]
    exact ⟨w, rfl, Fr.rf _ w, hc⟩
  | some t =>
    obtain ⟨w1, p1, e1, c1, t1⟩ := t
    rw [e] at hT
    obtain ⟨a1, a2⟩ := hT
    dsimp only at a1 a2
    obtain ⟨o1, o2, o3, -, -, -⟩ := hTok _ _ _ _ _ e
    rw [a1, if_neg (nE (by omega) (by omega) (by omega)), ga_n (by omega) (by decide), a1, h8, h17, iI_add]
    dsimp only
    have hrange : -1000 ≤ (wt : Int) + w1 - (if en < size then 7 else 0) ∧ (wt : Int) + w1 - (if en < size then 7 else 0) ≤ 1000 := by split <;> omega
    have key : ∀ t0 : Int, t0 = (if en < size then 7 else 0) → ∃ w', X7_tryPiece_L37 (iI (b : Nat)) (iI (en : Nat)) (iI (cd : Nat)) (iI t0) (iI ((wt : Int) + w1)) w = some w' ∧ Fr (SMx b) w w' ∧ EM w' b (if bet ((wt : Int) + w1 - (if en < size then 7 else 0)) (p1 + 1) en cd cur = true then some ((wt : Int) + w1 - (if en < size then 7 else 0), p1 + 1, en, cd, wt) else cur) := by
      intro t0 ht
      rw [← ht] at hrange ⊢
      rw [m_L37 hs (by omega) hc hcok rfl hrange (pc := p1 + 1) rfl (by omega) (by omega) (by omega) a2]
      generalize (wt : Int) + w1 - t0 = wo at hrange ⊢
      by_cases q : bet wo (p1 + 1) en cd cur = true
      · rw [if_pos q, if_pos q]
        unfold X7_tryPiece_L181
        rw [pa_n (by omega) (by decide), pa_n (by omega) (by decide), pa_n (by omega) (by decide), pa_n (by omega) (by decide), pa_n (by omega) (by decide)]
        refine ⟨_, rfl, (((((Fr.rf _ w).wr _ ?_).wr _ ?_).wr _ ?_).wr _ ?_).wr _ ?_, ?_, ?_, ?_, ?_, ?_⟩
        iterate 5 (unfold SMx; omega)
        · rw [rd_o (by decide), rd_o (by decide), rd_o (by decide), rd_o (by decide), rd_eq]
        · rw [rd_o (by decide), rd_o (by decide), rd_o (by decide), rd_eq]
        · rw [rd_o (by decide), rd_o (by decide), rd_eq]
        · rw [rd_o (by decide), rd_eq]
        · rw [rd_eq, rd_o (by decide), rd_o (by decide), rd_o (by decide), rd_o (by decide), h17]
      · rw [if_neg q, if_neg q]
        exact ⟨w, rfl, Fr.rf _ w, hc⟩
    by_cases q : en < size
    · rw [if_neg (nL (by omega) (by omega) (by omega))]
      exact key _ (by rw [if_pos q])
    · rw [if_pos (yL (by omega) (by omega) (by omega))]
      exact key 0 (by rw [if_neg q])
def SMr (b : Nat) : Nat → Nat → Nat → Prop := fun g o j => SRun g o j ∨ SMx b g o j
def SMc (g o j : Nat) : Prop := SRun g o j ∨ (g = 12 ∧ 16 ≤ o ∧ o ≤ 20)
theorem SMr_c {b g o j : Nat} (h : SMr b g o j) : SMc g o j := by unfold SMr SMx SRun at h; unfold SMc SRun; omega
theorem SMc_m {g o j : Nat} (h : SMc g o j) : ScM g o j := by unfold SMc SRun at h; unfold ScM; omega
section MCUTS
variable {w : Wd} {cm ln n : Nat} {us : Nat → Nat} {C : Nat → Cd}
theorem m_tryPieces (h : MC w cm ln n us C) {c b : Nat} (hc : c < n) (hb : b < cm) {T : Nat → En} {cur : En} (hTok : ∀ e, b < e → e ≤ cm → EnOK cm e (T e)) (K : Int32 → Int32 → Wd → Option Wd) :
    ∀ d k fuel w1, k + d = cm - b → d < fuel → Fr SMc w w1 → MReg w1 (rnF (C c) us b k) → (∀ e, b < e → e ≤ cm → EM2 w1 e (T e)) → EM w1 b (cuL (C c) us T cm b c k cur) → EnOK cm b (cuL (C c) us T cm b c k cur) → ∃ w', X7_layCuts_L62 fuel K (iI (b : Nat)) (iI (c : Nat)) (iI ((b + k : Nat) : Int)) w1 = K (iI (b : Nat)) (iI (c : Nat)) w' ∧ Fr (SMr b) w1 w' ∧ EM w' b (cuL (C c) us T cm b c (cm - b) cur) := by
  obtain ⟨h1, h2, h3, h4, h5, h6, h7, h8, h9⟩ := h
  obtain ⟨hk, cM⟩ := h9 c hc
  have hms := ms_le (C c)
  intro d
  induction d with
  | zero =>
    intro k fuel w1 hd hf f1 hr hT hE hok
    obtain ⟨f', rfl⟩ : ∃ f', fuel = f' + 1 := ⟨fuel - 1, by omega⟩
    obtain rfl : k = cm - b := by omega
    rw [X7_layCuts_L62, f1.1 12 0 8 (by unfold SMc SRun; omega), h6, if_pos (yL (by omega) (by omega) (by omega))]
    exact ⟨w1, rfl, Fr.rf _ w1, hE⟩
  | succ d ih =>
    intro k fuel w1 hd hf f1 hr hT hE hok
    obtain ⟨f', rfl⟩ : ∃ f', fuel = f' + 1 := ⟨fuel - 1, by omega⟩
    have hpl := rnF_pl hk (us := us) (f := b) k (fun j hj => (h8 _ (by omega)).1)
    rw [X7_layCuts_L62, f1.1 12 0 8 (by unfold SMc SRun; omega), h6, if_neg (nL (by omega) (by omega) (by omega)), hr.1]
    cases ea : (rnF (C c) us b k).1 with
    | false =>
      rw [if_neg (show ¬ false = true by decide), if_pos rfl]
      refine ⟨w1, rfl, Fr.rf _ w1, ?_⟩
      have := cuL_dead (T := T) (size := cm) (c := c) (cur := cur) ea (cm - b - k)
      rw [show k + (cm - b - k) = cm - b by omega] at this
      rw [this]; exact hE
    | true =>
      have hbd := rnF_bd hk (us := us) (f := b) (k + 1) (fun j hj => (h8 _ (by omega)).1)
      have hpl2 := rnF_pl hk (us := us) (f := b) (k + 1) (fun j hj => (h8 _ (by omega)).1)
      have hub := (h8 (b + k) (by omega))
      rw [if_pos rfl, if_neg (nE (by omega) (by omega) (by omega)), ga_n (by omega) (by decide), f1.1 12 5 _ (by unfold SMc SRun; omega), hub.2]
      have cM1 : CodeM w1 c (C c) := cM.fr (fun o j h1 h2 => f1.1 _ o j (by unfold SMc SRun; omega))
      obtain ⟨w2, g1, g2, g3⟩ := m_goOn cM1 hk (by omega) hr ea hpl hub.1
      have g2' : MReg w2 (rnF (C c) us b (k + 1)) := g2
      have f2 : Fr SMc w w2 := f1.tr (g3.mono (fun _ _ _ h => Or.inl h))
      have fE : ∀ e o, 16 ≤ o → o ≤ 20 → rd w2 12 o e = rd w1 12 o e := fun e o x y => g3.1 _ _ _ (by unfold SRun; omega)
      have eC : cuL (C c) us T cm b c (k + 1) cur = if rVal (rnF (C c) us b (k + 1)) = true then tp T cm (b + (k + 1)) c (rnF (C c) us b (k + 1)).2.2.2.2.1 (cuL (C c) us T cm b c k cur) else cuL (C c) us T cm b c k cur := rfl
      have hok2 : EnOK cm b (cuL (C c) us T cm b c (k + 1) cur) := by
        rw [eC]
        split
        · exact tp_ok (hTok _ (by omega) (by omega)) (by omega) (by omega) (by omega) (by omega) hok
        · exact hok
      rw [g1, ob_s, g2'.1, iI_add, show ((b + k : Nat) : Int) + 1 = ((b + (k + 1) : Nat) : Int) by omega]
      have rvd : rVal (rnF (C c) us b (k + 1)) = ((rnF (C c) us b (k + 1)).1 && decide ((rnF (C c) us b (k + 1)).2.2.1 / 3 = 0)) := rfl
      cases ea2 : (rnF (C c) us b (k + 1)).1 with
      | false =>
        rw [if_neg (show ¬ false = true by decide), if_neg (by decide), bnd_e]
        rw [rvd, ea2, if_neg (by simp)] at eC
        obtain ⟨w3, k1, k2, k3⟩ := ih (k + 1) f' w2 (by omega) (by omega) f2 g2' (fun e x y => (hT e x y).fr (fE e)) (by rw [eC]; exact hE.fr (fE b)) hok2
        exact ⟨w3, k1, (g3.mono (fun _ _ _ h => Or.inl h)).tr k2, k3⟩
      | true =>
        rw [if_pos rfl]
        by_cases hm : (rnF (C c) us b (k + 1)).2.2.1 / 3 = 0
        · rw [rvd, ea2, if_pos (by simp [hm])] at eC
          rw [if_pos (yE0 (by omega))]
          obtain ⟨w3, k1, k2, k3⟩ := m_tryPiece (w := w2) (T := T) (b := b) (size := cm) (en := b + (k + 1)) (cd := c) (wt := (rnF (C c) us b (k + 1)).2.2.2.2.1) (cur := cuL (C c) us T cm b c k cur) (by omega) (by omega) (by omega) (by omega) (by omega) (by rw [f2.1 12 0 8 (by unfold SMc SRun; omega), h6]) g2'.2.2.2.1 ((hT _ (by omega) (by omega)).fr (fE _)) (hTok _ (by omega) (by omega)) (hE.fr (fE b)) hok
          rw [k1, ob_s, bnd_e]
          have r3 : MReg w3 (rnF (C c) us b (k + 1)) := by
            have q : ∀ o j, o < 16 → rd w3 12 o j = rd w2 12 o j := fun o j ho => k2.1 _ _ _ (by unfold SMx; omega)
            obtain ⟨m1, m2, m3, m4, m5, m6⟩ := g2'
            exact ⟨by rw [q _ _ (by decide)]; exact m1, by rw [q _ _ (by decide)]; exact m2, by rw [q _ _ (by decide)]; exact m3, by rw [q _ _ (by decide)]; exact m4, by rw [q _ _ (by decide)]; exact m5, fun i hi => by rw [q _ _ (by decide)]; exact m6 i hi⟩
          obtain ⟨w4, l1, l2, l3⟩ := ih (k + 1) f' w3 (by omega) (by omega) (f2.tr (k2.mono (fun _ _ _ h => SMr_c (Or.inr h)))) r3 (fun e x y => ((hT e x y).fr (fE e)).fr (fun o x y => k2.1 _ _ _ (by unfold SMx; omega))) (by rw [eC]; exact k3) hok2
          exact ⟨w4, l1, ((g3.mono (fun _ _ _ h => Or.inl h)).tr (k2.mono (fun _ _ _ h => Or.inr h))).tr l2, l3⟩
        · rw [rvd, ea2, if_neg (by simp [hm])] at eC
          rw [if_neg (nE0 (by omega) (by omega)), bnd_e]
          obtain ⟨w3, k1, k2, k3⟩ := ih (k + 1) f' w2 (by omega) (by omega) f2 g2' (fun e x y => (hT e x y).fr (fE e)) (by rw [eC]; exact hE.fr (fE b)) hok2
          exact ⟨w3, k1, (g3.mono (fun _ _ _ h => Or.inl h)).tr k2, k3⟩
theorem m_codes (h : MC w cm ln n us C) {b : Nat} (hb : b < cm) {T : Nat → En} (hTok : ∀ e, b < e → e ≤ cm → EnOK cm e (T e)) (K : Int32 → Wd → Option Wd) :
    ∀ d c fuel w1, c + d = n → d < fuel → Fr SMc w w1 → (∀ e, b < e → e ≤ cm → EM2 w1 e (T e)) → EM w1 b (ccL C us T cm b c) → ∃ w', X7_layCuts_L48 fuel K (iI (b : Nat)) (iI (c : Nat)) w1 = K (iI (b : Nat)) w' ∧ Fr (SMr b) w1 w' ∧ EM w' b (ccL C us T cm b n) := by
  have hh := h
  obtain ⟨h1, h2, h3, h4, h5, h6, h7, h8, h9⟩ := h
  intro d
  induction d with
  | zero =>
    intro c fuel w1 hd hf f1 hT hE
    obtain ⟨f', rfl⟩ : ∃ f', fuel = f' + 1 := ⟨fuel - 1, by omega⟩
    obtain rfl : c = n := by omega
    rw [X7_layCuts_L48, f1.1 12 0 0 (by unfold SMc SRun; omega), h5, if_pos (yL (by omega) (by omega) (by omega))]
    exact ⟨w1, rfl, Fr.rf _ w1, hE⟩
  | succ d ih =>
    intro c fuel w1 hd hf f1 hT hE
    obtain ⟨f', rfl⟩ : ∃ f', fuel = f' + 1 := ⟨fuel - 1, by omega⟩
    have hok := ccL_ok (C := C) (us := us) (T := T) (size := cm) (b := b) (n := n) h1 (fun c hc => (h9 c hc).1) (by omega) (fun j hj => (h8 j hj).1) hTok c (by omega)
    obtain ⟨w2, b1, b2, b3⟩ := m_begin w1
    have fE : ∀ e o, 16 ≤ o → o ≤ 20 → rd w2 12 o e = rd w1 12 o e := fun e o x y => b3.1 _ _ _ (by unfold SRun; omega)
    rw [X7_layCuts_L48, f1.1 12 0 0 (by unfold SMc SRun; omega), h5, if_neg (nL (by omega) (by omega) (by omega)), b1, ob_s]
    obtain ⟨w3, e1, e2, e3⟩ := m_tryPieces hh (show c < n by omega) hb (cur := ccL C us T cm b c) hTok (X7_layCuts_L111 (X7_layCuts_L48 f' K)) (cm - b) 0 1000 w2 (by omega) (by omega) (f1.tr (b3.mono (fun _ _ _ h => Or.inl h))) b2 (fun e x y => (hT e x y).fr (fE e)) (hE.fr (fE b)) hok
    rw [show b + 0 = b from rfl] at e1
    rw [e1]
    unfold X7_layCuts_L111
    rw [bnd_e, iI_add]
    have f3 : Fr (SMr b) w1 w3 := (b3.mono (fun _ _ _ h => Or.inl h)).tr e2
    obtain ⟨w4, k1, k2, k3⟩ := ih (c + 1) f' w3 (by omega) (by omega) (f1.tr (f3.mono (fun _ _ _ h => SMr_c h))) (fun e x y => (hT e x y).fr (fun o x y => f3.1 _ _ _ (by unfold SMr SRun SMx; omega))) e3
    exact ⟨w4, k1, f3.tr k2, k3⟩
def DM (w : Wd) (T : Nat → En) (lo size : Nat) : Prop := (∀ j, lo ≤ j → j < size → EM w j (T j)) ∧ EM2 w size (T size)
theorem m_divL (h : MC w cm ln n us C) :
    ∀ e d fuel w1, d + e = cm → e < fuel → Fr SMc w w1 → DM w1 (tb C us n cm d) (cm - d) cm → ∃ w', X7_layCuts_L27 fuel (iI ((cm : Int) - 1 - d)) w1 = some w' ∧ Fr SMc w w' ∧ DM w' (tb C us n cm cm) 0 cm := by
  have hh := h
  obtain ⟨h1, h2, h3, h4, h5, h6, h7, h8, h9⟩ := h
  intro e
  induction e with
  | zero =>
    intro d fuel w1 hd hf f1 hD
    obtain ⟨f', rfl⟩ : ∃ f', fuel = f' + 1 := ⟨fuel - 1, by omega⟩
    obtain rfl : d = cm := by omega
    rw [X7_layCuts_L27, if_pos (yT0 (by omega) (by omega))]
    exact ⟨w1, rfl, f1, by rw [show d - d = 0 by omega] at hD; exact hD⟩
  | succ e ih =>
    intro d fuel w1 hd hf f1 hD
    obtain ⟨f', rfl⟩ : ∃ f', fuel = f' + 1 := ⟨fuel - 1, by omega⟩
    generalize hb : cm - 1 - d = b
    have hbi : (cm : Int) - 1 - d = (b : Nat) := by omega
    rw [X7_layCuts_L27, hbi, if_neg (nT0 (by omega) (by omega)), pa_n (by omega) (by decide), pa_n (by omega) (by decide)]
    have tok := tb_ok (C := C) (us := us) (n := n) (size := cm) h1 (fun c hc => (h9 c hc).1) (fun j hj => (h8 j hj).1) d (by omega)
    have tE2 : ∀ j, b < j → j ≤ cm → EM2 w1 j (tb C us n cm d j) := by
      intro j hj hj2
      by_cases ej : j = cm
      · subst ej; exact hD.2
      · exact (hD.1 j (by omega) (by omega)).to2
    have f2 : Fr (SMr b) w1 (wr (wr w1 12 16 b (iI (-100000))) 12 17 b (iI 0)) := ((Fr.rf _ w1).wr _ (by unfold SMr SRun SMx; omega)).wr _ (by unfold SMr SRun SMx; omega)
    obtain ⟨w3, k1, k2, k3⟩ := m_codes hh (b := b) (by omega) (T := tb C us n cm d) (fun j x y => tok j y) (X7_layCuts_L117 (X7_layCuts_L27 f')) n 0 1000 _ (by omega) (by omega) (f1.tr (f2.mono (fun _ _ _ h => SMr_c h))) (fun j x y => (tE2 j x y).fr (fun o x y => f2.1 _ _ _ (by unfold SMr SRun SMx; omega))) (show rd (wr (wr w1 12 16 b (iI (-100000))) 12 17 b (iI 0)) 12 16 b = iI (-100000) by rw [rd_o (by decide), rd_eq])
    rw [show (iI 0 : Int32) = iI ((0 : Nat) : Int) from rfl] at *
    rw [k1]
    unfold X7_layCuts_L117
    rw [bnd_e, iI_add, show (b : Int) + -1 = (cm : Int) - 1 - ((d + 1 : Nat) : Int) by omega]
    have f3 : Fr (SMr b) w1 w3 := f2.tr k2
    refine ih (d + 1) f' w3 (by omega) (by omega) (f1.tr (f3.mono (fun _ _ _ h => SMr_c h))) ⟨fun j hj hj2 => ?_, ?_⟩
    · show EM w3 j (if j + (d + 1) = cm then ccL C us (tb C us n cm d) cm j n else tb C us n cm d j)
      by_cases ej : j = b
      · subst ej; rw [if_pos (by omega)]; exact k3
      · rw [if_neg (by omega)]; exact (hD.1 j (by omega) hj2).fr (fun o x y => f3.1 _ _ _ (by unfold SMr SRun SMx; omega))
    · show EM2 w3 cm (if cm + (d + 1) = cm then _ else tb C us n cm d cm)
      rw [if_neg (by omega)]; exact hD.2.fr (fun o x y => f3.1 _ _ _ (by unfold SMr SRun SMx; omega))
theorem m_areCuts (h : MC w cm ln n us C) : ∃ w', X7_areCuts w = some (bE (tb C us n cm cm 0).isSome, w') ∧ Fr SMc w w' ∧ DM w' (tb C us n cm cm) 0 cm := by
  have hh := h
  obtain ⟨h1, h2, h3, h4, h5, h6, h7, h8, h9⟩ := h
  unfold X7_areCuts X7_layCuts
  rw [h6, pa_n (by omega) (by decide), rd_o (by decide), h6, pa_n (by omega) (by decide), rd_o (by decide), rd_o (by decide), h6, iI_sub, bnd_e]
  have f1 : Fr SMc w (wr (wr w 12 16 cm (iI 0)) 12 17 cm (iI 0)) := ((Fr.rf _ w).wr _ (by unfold SMc SRun; omega)).wr _ (by unfold SMc SRun; omega)
  obtain ⟨w2, e1, e2, e3⟩ := m_divL hh cm 0 1000 (wr (wr w 12 16 cm (iI 0)) 12 17 cm (iI 0)) (by omega) (by omega) f1 ⟨fun j a b => by omega, by
    show EM2 _ cm (if cm = cm then some (0, 0, 0, 0, 0) else none)
    rw [if_pos rfl]
    exact ⟨by rw [rd_o (by decide), rd_eq], rd_eq⟩⟩
  have e1' : X7_layCuts_L27 1000 (iI ((cm : Int) - 1)) (wr (wr w 12 16 cm (iI 0)) 12 17 cm (iI 0)) = some w2 := by
    have : (cm : Int) - 1 - ((0 : Nat) : Int) = (cm : Int) - 1 := by omega
    rw [this] at e1; exact e1
  rw [e1', ob_s, ga_e (k := 0) (by omega) (by omega) (by decide)]
  have tok := tb_ok (C := C) (us := us) (n := n) (size := cm) h1 (fun c hc => (h9 c hc).1) (fun j hj => (h8 j hj).1) cm (by omega) 0 (by omega)
  have t2 : EM2 w2 0 (tb C us n cm cm 0) := by
    by_cases z : cm = 0
    · subst z; exact e3.2
    · exact (e3.1 0 (by omega) (by omega)).to2
  refine ⟨w2, ?_, e2, e3⟩
  cases e : tb C us n cm cm 0 with
  | none =>
    rw [e] at t2
    have : rd w2 12 16 0 = iI (-100000) := t2
    rw [this, if_pos rfl]; rfl
  | some t =>
    obtain ⟨wo, pc, en, cd, wt⟩ := t
    rw [e] at t2 tok
    obtain ⟨o1, o2, o3, -, -, -⟩ := tok _ _ _ _ _ rfl
    rw [t2.1, if_neg (nE (by dsimp only; omega) (by dsimp only; omega) (by omega))]; rfl
end MCUTS

/-! The digest: the reference, and both. -/
/-- w1 is w but for the reference's scratch and the long number -/
def FrL (w w1 : Wd) : Prop := ∀ g o j, ¬ ScM g o j → rd w1 g o j = rd w g o j
theorem FrL.fr {w w1 : Wd} (h : FrL w w1) : Fr ScM w (wrl w1 w.2) := ⟨h, rfl⟩
theorem FrL.tr {w w1 w2 : Wd} (h : FrL w w1) (f : Fr ScM w1 w2) : FrL w w2 := fun g o j q => (f.1 g o j q).trans (h g o j q)
theorem FrL.mix {w w1 : Wd} (h : FrL w w1) (v : Int64) : FrL w (wrl w1 v) := h
theorem MC.frL {w w1 : Wd} {cm ln n : Nat} {us : Nat → Nat} {C : Nat → Cd} (h : MC w cm ln n us C) (f : FrL w w1) : MC w1 cm ln n us C := by
  have x := h.fr (w' := wrl w1 w.2) f.fr
  exact x
theorem RelA.frL {w w1 : Wd} {pl cm ln n : Nat} {us pg : Nat → Nat} {C : Nat → Cd} (h : RelA w pl cm ln n us pg C) (f : FrL w w1) : RelA w1 pl cm ln n us pg C := by
  have x := h.fr (w' := wrl w1 w.2) (scM_sc f.fr)
  exact x
theorem mix_e (w : Wd) (a : Int64) : X7_mix w a = some (wrl w ((31 : Int64) * w.2 + a)) := rfl
section DIGM
variable {w : Wd} {cm ln n : Nat} {us : Nat → Nat} {C : Nat → Cd} {sv : Nat → Int} {av : Nat → Nat → Int}
theorem m_dInk (h : MC w cm ln n us C) {c : Nat} (hc : c < n) (a : Int64) (K : Int32 → Wd → Option Wd) : ∀ d j fuel w1, j + d = lets (C c).1 → d < fuel → FrL w w1 → w1.2 = fL (fun j => iI (inkc (C c) j : Nat)) a j → ∃ w', X7_mixCode_L2 fuel K (iI (c : Nat)) (iI (j : Nat)) w1 = K (iI (c : Nat)) w' ∧ FrL w w' ∧ w'.2 = fL (fun j => iI (inkc (C c) j : Nat)) a (lets (C c).1) := by
  have hl := lets_le (C c).1
  have hn := h.1
  intro d
  induction d with
  | zero =>
    intro j fuel w1 hd hf f1 h2
    obtain ⟨f', rfl⟩ : ∃ f', fuel = f' + 1 := ⟨fuel - 1, by omega⟩
    obtain rfl : j = lets (C c).1 := by omega
    have hw := h.frL f1
    have hk := (hw.2.2.2.2.2.2.2.2 c hc)
    rw [X7_mixCode_L2, ga_n (by omega) (by decide), hk.2.1, m_lettersOf hk.1.1, if_pos (yL (by omega) (by omega) (by omega))]
    exact ⟨w1, rfl, f1, h2⟩
  | succ d ih =>
    intro j fuel w1 hd hf f1 h2
    obtain ⟨f', rfl⟩ : ∃ f', fuel = f' + 1 := ⟨fuel - 1, by omega⟩
    have hw := h.frL f1
    have hk := (hw.2.2.2.2.2.2.2.2 c hc)
    rw [X7_mixCode_L2, ga_n (by omega) (by decide), hk.2.1, m_lettersOf hk.1.1, if_neg (nL (by omega) (by omega) (by omega)), hw.ink hc (by omega), ob_s, mix_e, ob_s, bnd_e, iI_add]
    exact ih (j + 1) f' _ (by omega) (by omega) (f1.mix _) (by rw [h2]; rfl)
theorem m_dAb (h : MC w cm ln n us C) {c : Nat} (hc : c < n) (hs : FS (goodN C us cm ln n c) ln (sv c)) (a : Int64) (K : Int32 → Wd → Option Wd) : ∀ d k fuel w1, k + d = 8 → d < fuel → FrL w w1 → w1.2 = fL (fun k => iI (abV sv C us cm n c k)) a k → ∃ w', X7_mixCode_L34 fuel K (iI (c : Nat)) (iI (k : Nat)) w1 = K (iI (c : Nat)) w' ∧ FrL w w' ∧ w'.2 = fL (fun k => iI (abV sv C us cm n c k)) a 8 := by
  intro d
  induction d with
  | zero =>
    intro k fuel w1 hd hf f1 h2
    obtain ⟨f', rfl⟩ : ∃ f', fuel = f' + 1 := ⟨fuel - 1, by omega⟩
    obtain rfl : k = 8 := by omega
    rw [X7_mixCode_L34, if_pos (by decide)]
    exact ⟨w1, rfl, f1, h2⟩
  | succ d ih =>
    intro k fuel w1 hd hf f1 h2
    obtain ⟨f', rfl⟩ : ∃ f', fuel = f' + 1 := ⟨fuel - 1, by omega⟩
    obtain ⟨w2, e1, e2⟩ := (h.frL f1).about (sv := sv) hc (show k < 8 by omega) hs
    rw [X7_mixCode_L34, if_neg (nL (by omega) (by omega) (by omega)), e1, bI_s, mix_e, ob_s, bnd_e, iI_add]
    exact ih (k + 1) f' _ (by omega) (by omega) ((f1.tr e2).mix _) (by rw [e2.2, h2]; rfl)
theorem m_dPa (h : MC w cm ln n us C) {c : Nat} (hc : c < n) (a : Int64) (K : Int32 → Wd → Option Wd) : ∀ d k fuel w1, k + d = 4 → d < fuel → FrL w w1 → w1.2 = fL (fun i => iI ((rn (C c) us cm).2.2.2.2.2 i : Nat)) a k → ∃ w', X7_mixCode_L59 fuel K (iI (c : Nat)) (iI (k : Nat)) w1 = K (iI (c : Nat)) w' ∧ FrL w w' ∧ w'.2 = fL (fun i => iI ((rn (C c) us cm).2.2.2.2.2 i : Nat)) a 4 := by
  intro d
  induction d with
  | zero =>
    intro k fuel w1 hd hf f1 h2
    obtain ⟨f', rfl⟩ : ∃ f', fuel = f' + 1 := ⟨fuel - 1, by omega⟩
    obtain rfl : k = 4 := by omega
    rw [X7_mixCode_L59, if_pos (by decide)]
    exact ⟨w1, rfl, f1, h2⟩
  | succ d ih =>
    intro k fuel w1 hd hf f1 h2
    obtain ⟨f', rfl⟩ : ∃ f', fuel = f' + 1 := ⟨fuel - 1, by omega⟩
    obtain ⟨w2, e1, e2⟩ := (h.frL f1).pairs hc (show k < 4 by omega)
    rw [X7_mixCode_L59, if_neg (nL (by omega) (by omega) (by omega)), e1, bI_s, mix_e, ob_s, bnd_e, iI_add]
    exact ih (k + 1) f' _ (by omega) (by omega) ((f1.tr e2).mix _) (by rw [e2.2, h2]; rfl)
theorem m_dAp (h : MC w cm ln n us C) {c : Nat} (hc : c < n) (ha : ∀ b, b < n → AP (C c) (C b) (av c b)) (a : Int64) : ∀ d k fuel w1, k + d = n → d < fuel → FrL w w1 → w1.2 = fL (fun b => iI (av c b)) a k → ∃ w', X7_mixCode_L94 fuel (iI (c : Nat)) (iI (k : Nat)) w1 = some w' ∧ FrL w w' ∧ w'.2 = fL (fun b => iI (av c b)) a n := by
  have hn := h.1
  intro d
  induction d with
  | zero =>
    intro k fuel w1 hd hf f1 h2
    obtain ⟨f', rfl⟩ : ∃ f', fuel = f' + 1 := ⟨fuel - 1, by omega⟩
    obtain rfl : k = n := by omega
    rw [X7_mixCode_L94, (h.frL f1).2.2.2.2.1, if_pos (yL (by omega) (by omega) (by omega))]
    exact ⟨w1, rfl, f1, h2⟩
  | succ d ih =>
    intro k fuel w1 hd hf f1 h2
    obtain ⟨f', rfl⟩ : ∃ f', fuel = f' + 1 := ⟨fuel - 1, by omega⟩
    obtain ⟨w2, e1, e2⟩ := (h.frL f1).apart hc (show k < n by omega) (ha k (by omega))
    rw [X7_mixCode_L94, (h.frL f1).2.2.2.2.1, if_neg (nL (by omega) (by omega) (by omega)), e1, bI_s, mix_e, ob_s, bnd_e, iI_add]
    exact ih (k + 1) f' _ (by omega) (by omega) ((f1.tr e2).mix _) (by rw [e2.2, h2]; rfl)
theorem m_dCode (h : MC w cm ln n us C) {c : Nat} (hc : c < n) (hs : FS (goodN C us cm ln n c) ln (sv c)) (ha : ∀ b, b < n → AP (C c) (C b) (av c b)) {w1 : Wd} (f1 : FrL w w1) : ∃ w', X7_mixCode w1 (iI (c : Nat)) = some w' ∧ FrL w w' ∧ w'.2 = dgC sv av C us cm n c w1.2 := by
  have hn := h.1
  have hl := lets_le (C c).1
  unfold X7_mixCode
  obtain ⟨w2, a1, a2, a3⟩ := m_dInk h hc w1.2 X7_mixCode_L32 (lets (C c).1) 0 1000 w1 (by omega) (by omega) f1 rfl
  rw [show X7_mixCode_L2 1000 X7_mixCode_L32 (iI (c : Nat)) (iI 0) w1 = _ from a1]
  unfold X7_mixCode_L32
  obtain ⟨w3, b1, b2, b3⟩ := m_dAb h hc hs w2.2 X7_mixCode_L57 8 0 1000 w2 (by omega) (by omega) a2 rfl
  rw [show X7_mixCode_L34 1000 X7_mixCode_L57 (iI (c : Nat)) (iI 0) w2 = _ from b1]
  unfold X7_mixCode_L57
  obtain ⟨w4, c1, c2, c3⟩ := m_dPa h hc w3.2 X7_mixCode_L81 4 0 1000 w3 (by omega) (by omega) b2 rfl
  rw [show X7_mixCode_L59 1000 X7_mixCode_L81 (iI (c : Nat)) (iI 0) w3 = _ from c1]
  unfold X7_mixCode_L81
  obtain ⟨w5, d1, d2⟩ := (h.frL c2).rows5 hc
  rw [d1, bI_s, mix_e, ob_s]
  obtain ⟨w6, e1, e2, e3⟩ := m_dAp h hc ha ((31 : Int64) * w5.2 + (iI (wy (C c) 5 0 : Nat)).toInt64) n 0 1000 (wrl w5 ((31 : Int64) * w5.2 + (iI (wy (C c) 5 0 : Nat)).toInt64)) (by omega) (by omega) ((c2.tr d2).mix _) rfl
  refine ⟨w6, e1, e2, ?_⟩
  rw [e3, d2.2, c3, b3, a3]
  rfl
theorem m_dCodes (h : MC w cm ln n us C) (hs : ∀ c, c < n → FS (goodN C us cm ln n c) ln (sv c)) (ha : ∀ c b, c < n → b < n → AP (C c) (C b) (av c b)) (K : Wd → Option (Int64 × Wd)) : ∀ d k fuel w1, k + d = n → d < fuel → FrL w w1 → w1.2 = dgCs sv av C us cm n k → ∃ w', X7_digest_L9 fuel K (iI (k : Nat)) w1 = K w' ∧ FrL w w' ∧ w'.2 = dgCs sv av C us cm n n := by
  have hn := h.1
  intro d
  induction d with
  | zero =>
    intro k fuel w1 hd hf f1 h2
    obtain ⟨f', rfl⟩ : ∃ f', fuel = f' + 1 := ⟨fuel - 1, by omega⟩
    obtain rfl : k = n := by omega
    rw [X7_digest_L9, (h.frL f1).2.2.2.2.1, if_pos (yL (by omega) (by omega) (by omega))]
    exact ⟨w1, rfl, f1, h2⟩
  | succ d ih =>
    intro k fuel w1 hd hf f1 h2
    obtain ⟨f', rfl⟩ : ∃ f', fuel = f' + 1 := ⟨fuel - 1, by omega⟩
    obtain ⟨w2, e1, e2, e3⟩ := m_dCode h (show k < n by omega) (hs k (by omega)) (fun b hb => ha k b (by omega) hb) f1
    rw [X7_digest_L9, (h.frL f1).2.2.2.2.1, if_neg (nL (by omega) (by omega) (by omega)), e1, ob_s, bnd_e, iI_add]
    exact ih (k + 1) f' w2 (by omega) (by omega) e2 (by rw [e3, h2]; rfl)
theorem m_dUn (h : MC w cm ln n us C) (a : Int64) (K : Wd → Option (Int64 × Wd)) : ∀ d k fuel w1, k + d = cm → d < fuel → FrL w w1 → w1.2 = fL (fun j => iI (us j : Nat)) a k → ∃ w', X7_digest_L30 fuel K (iI (k : Nat)) w1 = K w' ∧ FrL w w' ∧ w'.2 = fL (fun j => iI (us j : Nat)) a cm := by
  obtain ⟨h1, h2', h3, h4, h5, h6, h7, h8, h9⟩ := id h
  intro d
  induction d with
  | zero =>
    intro k fuel w1 hd hf f1 h2
    obtain ⟨f', rfl⟩ : ∃ f', fuel = f' + 1 := ⟨fuel - 1, by omega⟩
    obtain rfl : k = cm := by omega
    rw [X7_digest_L30, (h.frL f1).2.2.2.2.2.1, if_pos (yL (by omega) (by omega) (by omega))]
    exact ⟨w1, rfl, f1, h2⟩
  | succ d ih =>
    intro k fuel w1 hd hf f1 h2
    obtain ⟨f', rfl⟩ : ∃ f', fuel = f' + 1 := ⟨fuel - 1, by omega⟩
    rw [X7_digest_L30, (h.frL f1).2.2.2.2.2.1, if_neg (nL (by omega) (by omega) (by omega)), ga_n (by omega) (by decide), ((h.frL f1).2.2.2.2.2.2.2.1 k (by omega)).2, mix_e, ob_s, bnd_e, iI_add]
    exact ih (k + 1) f' _ (by omega) (by omega) (f1.mix _) (by rw [h2]; rfl)
theorem m_dPg {pl : Nat} {us pg : Nat → Nat} (h : RelA w pl cm ln n us pg C) (a : Int64) (K : Wd → Option (Int64 × Wd)) : ∀ d k fuel w1, k + d = pl → d < fuel → FrL w w1 → w1.2 = fL (fun j => iI (pg j : Nat)) a k → ∃ w', X7_digest_L77 fuel K (iI (k : Nat)) w1 = K w' ∧ FrL w w' ∧ w'.2 = fL (fun j => iI (pg j : Nat)) a pl := by
  have hpl := h.1.1
  intro d
  induction d with
  | zero =>
    intro k fuel w1 hd hf f1 h2
    obtain ⟨f', rfl⟩ : ∃ f', fuel = f' + 1 := ⟨fuel - 1, by omega⟩
    obtain rfl : k = pl := by omega
    rw [X7_digest_L77, (h.frL f1).1.2.2.1, if_pos (yL (by omega) (by omega) (by omega))]
    exact ⟨w1, rfl, f1, h2⟩
  | succ d ih =>
    intro k fuel w1 hd hf f1 h2
    obtain ⟨f', rfl⟩ : ∃ f', fuel = f' + 1 := ⟨fuel - 1, by omega⟩
    rw [X7_digest_L77, (h.frL f1).1.2.2.1, if_neg (nL (by omega) (by omega) (by omega)), ga_n (by omega) (by decide), ((h.frL f1).1.2.2.2 k (by omega)).2.2.2, mix_e, ob_s, bnd_e, iI_add]
    exact ih (k + 1) f' _ (by omega) (by omega) (f1.mix _) (by rw [h2]; rfl)
theorem m_dCn {cv : Nat → Int32} (hv : ∀ (k : Nat) w1, FrL w w1 → ∃ w2, X7_howMany w1 (iI (k : Nat)) = some (cv k, w2) ∧ Fr ScM w1 w2) (a : Int64) : ∀ d k fuel w1, k + d = 8 → d < fuel → FrL w w1 → w1.2 = fL cv a k → ∃ w', X7_digest_L104 fuel (iI (k : Nat)) w1 = some (fL cv a 8, w') ∧ FrL w w' := by
  intro d
  induction d with
  | zero =>
    intro k fuel w1 hd hf f1 h2
    obtain ⟨f', rfl⟩ : ∃ f', fuel = f' + 1 := ⟨fuel - 1, by omega⟩
    obtain rfl : k = 8 := by omega
    rw [X7_digest_L104, if_pos (by decide), h2]
    exact ⟨w1, rfl, f1⟩
  | succ d ih =>
    intro k fuel w1 hd hf f1 h2
    obtain ⟨f', rfl⟩ : ∃ f', fuel = f' + 1 := ⟨fuel - 1, by omega⟩
    obtain ⟨w2, e1, e2⟩ := hv k w1 f1
    rw [X7_digest_L104, if_neg (nL (by omega) (by omega) (by omega)), e1, bI_s, mix_e, ob_s, bnd_e, iI_add]
    exact ih (k + 1) f' _ (by omega) (by omega) ((f1.tr e2).mix _) (by rw [e2.2, h2]; rfl)
theorem m_dPc {T : Nat → En} {size : Nat} (g : GoodT T size) (hD : DM w T 0 size) {wo : Int} {pc en cd wt : Nat} (hT : T 0 = some (wo, pc, en, cd, wt)) (a : Int64) : ∀ d i fuel v, i + d = 3 * pc → d < fuel → v = fL (fun i => iI (pv T (i % 3) (i / 3) 0 : Nat)) a i → X7_mixCuts_L24 fuel (iI (i : Nat)) (wrl w v) = some (wrl w (fL (fun i => iI (pv T (i % 3) (i / 3) 0 : Nat)) a (3 * pc))) := by
  have h40 := g.1
  have hok := (g.2.1 0 (by omega) wo pc en cd wt hT).2.2.1
  have z := hD.zero
  rw [hT] at z
  have z2 : rd w 12 17 0 = iI (pc : Nat) := z.2
  intro d
  induction d with
  | zero =>
    intro i fuel v hd hf hv
    obtain ⟨f', rfl⟩ : ∃ f', fuel = f' + 1 := ⟨fuel - 1, by omega⟩
    obtain rfl : i = 3 * pc := by omega
    rw [X7_mixCuts_L24, ga_e (k := 0) (by omega) (by omega) (by decide), rd_wrl, z2, iI_mul, if_pos (yL (by omega) (by omega) (by omega)), hv]
  | succ d ih =>
    intro i fuel v hd hf hv
    obtain ⟨f', rfl⟩ : ∃ f', fuel = f' + 1 := ⟨fuel - 1, by omega⟩
    have hD' : DM (wrl w v) T 0 size := hD
    have hm := m_prop g hD' (p := i % 3) (by omega) (i / 3) 0 0 1000 wo pc en cd wt (by omega) (by omega) (by omega) hT (by omega)
    rw [show 0 + i / 3 = i / 3 by omega] at hm
    rw [X7_mixCuts_L24, ga_e (k := 0) (by omega) (by omega) (by decide), rd_wrl, z2, iI_mul, if_neg (nL (by omega) (by omega) (by omega)), iI_div (by omega) (by omega) (by decide) (by decide), iI_irm (by omega) (by omega) (by decide) (by decide), show ((i : Int) / 3) = ((i / 3 : Nat) : Int) by omega, show ((i : Int) % 3) = ((i % 3 : Nat) : Int) by omega]
    unfold X7_pieceNow
    rw [show X7_pieceNow_L5 1000 X7_pieceNow_L24 (iI ((i / 3 : Nat) : Int)) (iI ((i % 3 : Nat) : Int)) (iI 0) (iI 0) (wrl w v) = _ from hm, ob_s, mix_e, ob_s, bnd_e, iI_add]
    exact ih (i + 1) f' _ (by omega) (by omega) (by rw [hv]; rfl)
/-- the reference's division, mixed in; whatever comes then -/
theorem m_dT (h : MC w cm ln n us C) {w1 : Wd} (f1 : FrL w w1) (K : Wd → Option (Int64 × Wd)) : ∃ w', (bI (X7_areCuts w1) fun r_10 w_11 => if r_10 = 0 then K w_11 else ob (X7_mixCuts w_11) fun w_12 => K w_12) = K w' ∧ FrL w w' ∧ w'.2 = dgT (tb C us n cm cm) w1.2 := by
  have hw := h.frL f1
  obtain ⟨h1, h2, h3, h4, h5, h6, h7, h8, h9⟩ := id hw
  obtain ⟨w2, b1, b2, b3⟩ := m_areCuts hw
  have f2 : FrL w w2 := f1.tr (b2.mono (fun _ _ _ h => SMc_m h))
  have g : GoodT (tb C us n cm cm) cm := tb_good (by omega) h1 (fun c hc => (h9 c hc).1) (fun j hj => (h8 j hj).1)
  unfold dgT
  rw [b1, bI_s]
  have z := b3.zero
  cases e : tb C us n cm cm 0 with
  | none =>
    rw [if_pos (show bE (none : En).isSome = 0 from rfl)]
    exact ⟨w2, rfl, f2, b2.2⟩
  | some t =>
    obtain ⟨wo, pc, en, cd, wt⟩ := t
    have hok := (g.2.1 0 (by omega) wo pc en cd wt e).2.2.1
    rw [e] at z
    have z1 : rd w2 12 16 0 = iI wo := z.1
    have z2 : rd w2 12 17 0 = iI (pc : Nat) := z.2
    rw [if_neg (show ¬ bE (some (wo, pc, en, cd, wt)).isSome = 0 by show ¬ bE true = 0; decide)]
    unfold X7_mixCuts
    rw [ga_e (k := 0) (by omega) (by omega) (by decide), z1, mix_e, ob_s, ga_e (k := 0) (by omega) (by omega) (by decide), rd_wrl, z2, mix_e, ob_s]
    have := m_dPc g b3 e ((31 : Int64) * ((31 : Int64) * w2.2 + (iI wo).toInt64) + (iI (pc : Nat)).toInt64) (3 * pc) 0 1000 _ (by omega) (by omega) rfl
    rw [show X7_mixCuts_L24 1000 (iI 0) (wrl (wrl w2 ((31 : Int64) * w2.2 + (iI wo).toInt64)) ((31 : Int64) * (wrl w2 ((31 : Int64) * w2.2 + (iI wo).toInt64)).2 + (iI (pc : Nat)).toInt64)) = _ from this, ob_s]
    exact ⟨_, rfl, f2.mix _, by rw [← b2.2]; rfl⟩
end DIGM
theorem op_digest {w : Wd} (h : Rel w) : ∃ r w1 w2, X6_digest w = some (r, w1) ∧ X7_digest w1 = some (r, w2) ∧ Rel w2 := by
  obtain ⟨pl, cm, ln, n, us, pg, C, hR⟩ := id h
  have hn := hR.2.2.2.1.1
  have hx := hR.xc
  have hln := hx.2.2.1
  have hcm := hx.2.2.2.1
  have hpl := hR.1.1
  obtain ⟨sv, hs⟩ : ∃ sv : Nat → Int, ∀ c, c < n → FS (goodN C us cm ln n c) ln (sv c) := Classical.axiomOfChoice (r := fun c r => c < n → FS (goodN C us cm ln n c) ln r) (fun c => by
    by_cases hc : c < n
    · obtain ⟨r, -, -, -, e⟩ := hx.firstSure hc
      exact ⟨r, fun _ => e⟩
    · exact ⟨0, fun q => absurd q hc⟩)
  obtain ⟨av, ha⟩ : ∃ av : Nat → Nat → Int, ∀ c b, c < n → b < n → AP (C c) (C b) (av c b) := by
    have h1 : ∀ c, ∃ f : Nat → Int, ∀ b, c < n → b < n → AP (C c) (C b) (f b) := fun c => Classical.axiomOfChoice (r := fun b r => c < n → b < n → AP (C c) (C b) r) (fun b => by
      by_cases hc : c < n
      · by_cases hb : b < n
        · obtain ⟨r, -, -, -, e⟩ := hx.apart hc hb
          exact ⟨r, fun _ _ => e⟩
        · exact ⟨0, fun _ q => absurd q hb⟩
      · exact ⟨0, fun q => absurd q hc⟩)
    exact Classical.axiomOfChoice (r := fun c (f : Nat → Int) => ∀ b, c < n → b < n → AP (C c) (C b) (f b)) h1
  obtain ⟨wj, bj, -, -, hj⟩ := hR.mc.judged
  -- the class
  unfold X6_digest
  rw [bnd_e]
  obtain ⟨w1, a1, a2⟩ := x_dCodes hx hs ha X6_digest_L27 n 0 1000 w (by omega) (by omega) (Fr.rf _ w)
  rw [show X6_digest_L6 1000 X6_digest_L27 (1511 : Int64) (iI 0) w = _ from a1]
  have hR1 := hR.fr (scX_sc a2)
  unfold X6_digest_L27
  rw [show X6_digest_L29 1000 X6_digest_L55 (dgCs sv av C us cm n n) (iI 0) w1 = _ from x_dUn hR1.xc (dgCs sv av C us cm n n) X6_digest_L55 cm 0 1000 (by omega) (by omega)]
  unfold X6_digest_L55
  rw [hR1.xc.judged hj, ob_s, bnd_e]
  obtain ⟨w2, b1, b2⟩ := x_dT hR1.xc (X6_fold (fL (fun j => iI (us j : Nat)) (dgCs sv av C us cm n n) cm) (iI bj).toInt64)
  have hR2 := hR1.fr (scX_sc b2)
  rw [b1, bI_s]
  rw [show X6_digest_L73 1000 X6_digest_L99 (dgT (tb C us n cm cm) (X6_fold (fL (fun j => iI (us j : Nat)) (dgCs sv av C us cm n n) cm) (iI bj).toInt64)) (iI 0) w2 = _ from x_dPg hR2.1 (dgT (tb C us n cm cm) (X6_fold (fL (fun j => iI (us j : Nat)) (dgCs sv av C us cm n n) cm) (iI bj).toInt64)) X6_digest_L99 pl 0 1000 (by omega) (by omega)]
  unfold X6_digest_L99
  obtain ⟨cv, hc⟩ : ∃ cv : Nat → Int32, ∀ k : Nat, X6_count w2 (iI (k : Nat)) = some (cv k) ∧ ∀ w1, RelA w1 pl cm ln n us pg C → rd w1 0 0 8 = rd w2 0 0 8 → rd w1 0 0 9 = rd w2 0 0 9 → ∃ w3, X7_howMany w1 (iI (k : Nat)) = some (cv k, w3) ∧ Fr ScM w1 w3 := Classical.axiomOfChoice (fun k : Nat => both_count hR2 (iI (k : Nat)))
  rw [show X6_digest_L101 1000 (fL (fun j => iI (pg j : Nat)) (dgT (tb C us n cm cm) (X6_fold (fL (fun j => iI (us j : Nat)) (dgCs sv av C us cm n n) cm) (iI bj).toInt64)) pl) (iI 0) w2 = _ from x_dCn (fun k => (hc k).1) (fL (fun j => iI (pg j : Nat)) (dgT (tb C us n cm cm) (X6_fold (fL (fun j => iI (us j : Nat)) (dgCs sv av C us cm n n) cm) (iI bj).toInt64)) pl) 8 0 1000 (by omega) (by omega)]
  -- the reference
  have hm := hR2.mc
  unfold X7_digest
  obtain ⟨w3, c1, c2, c3⟩ := m_dCodes hm hs ha X7_digest_L28 n 0 1000 (wrl w2 (1511 : Int64)) (by omega) (by omega) (fun _ _ _ _ => rfl) rfl
  obtain ⟨w4, d1, d2, d3⟩ := m_dUn hm w3.2 X7_digest_L55 cm 0 1000 w3 (by omega) (by omega) c2 rfl
  obtain ⟨w5, bj', e1, e2, e3⟩ := (hm.frL d2).judged
  have hbj : iI bj' = iI bj := by
    have x1 := hR2.xc.judged e3
    have x2 := hR2.xc.judged hj
    rw [x1] at x2
    exact Option.some.inj x2
  have f5 : FrL w2 (wrl w5 ((31 : Int64) * w5.2 + (iI bj).toInt64)) := (d2.tr e2).mix _
  obtain ⟨w6, g1, g2, g3⟩ := m_dT hm f5 (fun w => X7_digest_L77 1000 X7_digest_L102 (iI 0) w)
  obtain ⟨w7, i1, i2, i3⟩ := m_dPg hR2 w6.2 X7_digest_L102 pl 0 1000 w6 (by omega) (by omega) g2 rfl
  obtain ⟨w8, j1, j2⟩ := m_dCn (w := w2) (cv := cv) (fun k w1 f => (hc k).2 w1 (hR2.frL f) (f 0 0 8 (by unfold ScM; omega)) (f 0 0 9 (by unfold ScM; omega))) w7.2 8 0 1000 w7 (by omega) (by omega) i2 rfl
  refine ⟨_, w2, w8, rfl, ?_, pl, cm, ln, n, us, pg, C, hR2.frL j2⟩
  rw [bnd_e, show X7_digest_L9 1000 X7_digest_L28 (iI 0) (wrl w2 (1511 : Int64)) = _ from c1]
  unfold X7_digest_L28
  rw [show X7_digest_L30 1000 X7_digest_L55 (iI 0) w3 = _ from d1]
  unfold X7_digest_L55
  rw [e1, bI_s, hbj, mix_e, ob_s, g1, show X7_digest_L77 1000 X7_digest_L102 (iI 0) w6 = _ from i1]
  unfold X7_digest_L102
  rw [show X7_digest_L104 1000 (iI 0) w7 = _ from j1, i3, g3, show (wrl w5 ((31 : Int64) * w5.2 + (iI bj).toInt64)).2 = (31 : Int64) * w5.2 + (iI bj).toInt64 from rfl, e2.2, d3, c3]
  rfl

/-! The digest: the class. -/
def dgC (sv : Nat → Int) (av : Nat → Nat → Int) (C : Nat → Cd) (us : Nat → Nat) (cm n c : Nat) (a : Int64) : Int64 :=
  fL (fun b => iI (av c b)) ((31 : Int64) * fL (fun i => iI ((rn (C c) us cm).2.2.2.2.2 i : Nat)) (fL (fun k => iI (abV sv C us cm n c k)) (fL (fun j => iI (inkc (C c) j : Nat)) a (lets (C c).1)) 8) 4 + (iI (wy (C c) 5 0 : Nat)).toInt64) n
def dgCs (sv : Nat → Int) (av : Nat → Nat → Int) (C : Nat → Cd) (us : Nat → Nat) (cm n : Nat) : Nat → Int64
  | 0 => 1511
  | c + 1 => dgC sv av C us cm n c (dgCs sv av C us cm n c)
def dgT (T : Nat → En) (a : Int64) : Int64 := match T 0 with
  | none => a
  | some t => fL (fun i => iI (pv T (i % 3) (i / 3) 0 : Nat)) ((31 : Int64) * ((31 : Int64) * a + (iI t.1).toInt64) + (iI (t.2.1 : Nat)).toInt64) (3 * t.2.1)
def dgJ (sv : Nat → Int) (av : Nat → Nat → Int) (C : Nat → Cd) (us : Nat → Nat) (cm n : Nat) (b : Int) : Int64 := (31 : Int64) * fL (fun j => iI (us j : Nat)) (dgCs sv av C us cm n n) cm + (iI b).toInt64
section DIGX
variable {w : Wd} {cm ln n : Nat} {us : Nat → Nat} {C : Nat → Cd} {sv : Nat → Int} {av : Nat → Nat → Int}
theorem x_dInk (h : XC w cm ln n us C) {c : Nat} (hc : c < n) (a : Int64) (K : Int32 → Int64 → Wd → Option (Int64 × Wd)) : ∀ d j fuel, j + d = lets (C c).1 → d < fuel → X6_foldCode_L17 fuel K (iI (c : Nat)) (fL (fun j => iI (inkc (C c) j : Nat)) a j) (iI (lets (C c).1 : Nat)) (iI (j : Nat)) w = K (iI (c : Nat)) (fL (fun j => iI (inkc (C c) j : Nat)) a (lets (C c).1)) w := by
  have hl := lets_le (C c).1
  intro d
  induction d with
  | zero =>
    intro j fuel hd hf
    obtain ⟨f', rfl⟩ : ∃ f', fuel = f' + 1 := ⟨fuel - 1, by omega⟩
    obtain rfl : j = lets (C c).1 := by omega
    rw [X6_foldCode_L17, if_pos (yL (by omega) (by omega) (by omega))]
  | succ d ih =>
    intro j fuel hd hf
    obtain ⟨f', rfl⟩ : ∃ f', fuel = f' + 1 := ⟨fuel - 1, by omega⟩
    rw [X6_foldCode_L17, if_neg (nL (by omega) (by omega) (by omega)), h.ink hc (by omega), ob_s, bnd_e, bnd_e, iI_add]
    exact ih (j + 1) f' (by omega) (by omega)
theorem x_dAb (h : XC w cm ln n us C) {c : Nat} (hc : c < n) (hs : FS (goodN C us cm ln n c) ln (sv c)) (a : Int64) (K : Int32 → Int64 → Wd → Option (Int64 × Wd)) : ∀ d k fuel w1, k + d = 8 → d < fuel → Fr ScX w w1 → ∃ w', X6_foldCode_L48 fuel K (iI (c : Nat)) (fL (fun k => iI (abV sv C us cm n c k)) a k) (iI (k : Nat)) w1 = K (iI (c : Nat)) (fL (fun k => iI (abV sv C us cm n c k)) a 8) w' ∧ Fr ScX w w' := by
  intro d
  induction d with
  | zero =>
    intro k fuel w1 hd hf f1
    obtain ⟨f', rfl⟩ : ∃ f', fuel = f' + 1 := ⟨fuel - 1, by omega⟩
    obtain rfl : k = 8 := by omega
    rw [X6_foldCode_L48, if_pos (by decide)]
    exact ⟨w1, rfl, f1⟩
  | succ d ih =>
    intro k fuel w1 hd hf f1
    obtain ⟨f', rfl⟩ : ∃ f', fuel = f' + 1 := ⟨fuel - 1, by omega⟩
    obtain ⟨w2, e1, e2⟩ := (h.fr f1).about (sv := sv) hc (show k < 8 by omega) hs
    rw [X6_foldCode_L48, if_neg (nL (by omega) (by omega) (by omega)), e1, bI_s, bnd_e, bnd_e, iI_add]
    exact ih (k + 1) f' w2 (by omega) (by omega) (f1.tr e2)
theorem x_dPa (h : XC w cm ln n us C) {c : Nat} (hc : c < n) (a : Int64) (K : Int32 → Int64 → Wd → Option (Int64 × Wd)) : ∀ d j fuel, j + d = 4 → d < fuel → X6_foldCode_L79 fuel K (iI (c : Nat)) (fL (fun i => iI ((rn (C c) us cm).2.2.2.2.2 i : Nat)) a j) (iI (j : Nat)) w = K (iI (c : Nat)) (fL (fun i => iI ((rn (C c) us cm).2.2.2.2.2 i : Nat)) a 4) w := by
  intro d
  induction d with
  | zero =>
    intro j fuel hd hf
    obtain ⟨f', rfl⟩ : ∃ f', fuel = f' + 1 := ⟨fuel - 1, by omega⟩
    obtain rfl : j = 4 := by omega
    rw [X6_foldCode_L79, if_pos (by decide)]
  | succ d ih =>
    intro j fuel hd hf
    obtain ⟨f', rfl⟩ : ∃ f', fuel = f' + 1 := ⟨fuel - 1, by omega⟩
    rw [X6_foldCode_L79, if_neg (nL (by omega) (by omega) (by omega)), h.pairs hc (by omega), ob_s, bnd_e, bnd_e, iI_add]
    exact ih (j + 1) f' (by omega) (by omega)
theorem x_dAp (h : XC w cm ln n us C) {c : Nat} (hc : c < n) (ha : ∀ b, b < n → AP (C c) (C b) (av c b)) (a : Int64) : ∀ d k fuel w1, k + d = n → d < fuel → Fr ScX w w1 → ∃ w', X6_foldCode_L123 fuel (iI (c : Nat)) (fL (fun b => iI (av c b)) a k) (iI (k : Nat)) w1 = some (fL (fun b => iI (av c b)) a n, w') ∧ Fr ScX w w' := by
  have hn := h.1
  intro d
  induction d with
  | zero =>
    intro k fuel w1 hd hf f1
    obtain ⟨f', rfl⟩ : ∃ f', fuel = f' + 1 := ⟨fuel - 1, by omega⟩
    obtain rfl : k = n := by omega
    rw [X6_foldCode_L123, (h.fr f1).2.2.2.2.1, if_pos (yL (by omega) (by omega) (by omega))]
    exact ⟨w1, rfl, f1⟩
  | succ d ih =>
    intro k fuel w1 hd hf f1
    obtain ⟨f', rfl⟩ : ∃ f', fuel = f' + 1 := ⟨fuel - 1, by omega⟩
    have hw1 := h.fr f1
    obtain ⟨r, w2, e1, e2, e3⟩ := hw1.apart hc (show k < n by omega)
    rw [e3.uniq (hw1.2.2.2.2.2.2.2.2 c hc).1 (hw1.2.2.2.2.2.2.2.2 k (by omega)).1 (ha k (by omega))] at e1
    rw [X6_foldCode_L123, hw1.2.2.2.2.1, if_neg (nL (by omega) (by omega) (by omega)), e1, bI_s, bnd_e, bnd_e, iI_add]
    exact ih (k + 1) f' w2 (by omega) (by omega) (f1.tr e2)
theorem x_dCode (h : XC w cm ln n us C) {c : Nat} (hc : c < n) (hs : FS (goodN C us cm ln n c) ln (sv c)) (ha : ∀ b, b < n → AP (C c) (C b) (av c b)) (a : Int64) : ∃ w', X6_foldCode w a (iI (c : Nat)) = some (dgC sv av C us cm n c a, w') ∧ Fr ScX w w' := by
  have hn := h.1
  have hl := lets_le (C c).1
  unfold X6_foldCode
  rw [ix_n (by omega) (by decide), bnd_e]
  unfold X0_textLength
  rw [(h.2.2.2.2.2.2.2.2 c hc).2.1.1, show X6_foldCode_L17 1000 X6_foldCode_L45 (iI (c : Nat)) a (iI (lets (C c).1 : Nat)) (iI 0) w = _ from x_dInk h hc a X6_foldCode_L45 (lets (C c).1) 0 1000 (by omega) (by omega)]
  unfold X6_foldCode_L45
  obtain ⟨w1, e1, e2⟩ := x_dAb h hc hs (fL (fun j => iI (inkc (C c) j : Nat)) a (lets (C c).1)) X6_foldCode_L76 8 0 1000 w (by omega) (by omega) (Fr.rf _ w)
  rw [show X6_foldCode_L48 1000 X6_foldCode_L76 (iI (c : Nat)) (fL (fun j => iI (inkc (C c) j : Nat)) a (lets (C c).1)) (iI 0) w = _ from e1]
  unfold X6_foldCode_L76
  rw [show X6_foldCode_L79 1000 X6_foldCode_L106 (iI (c : Nat)) (fL (fun k => iI (abV sv C us cm n c k)) (fL (fun j => iI (inkc (C c) j : Nat)) a (lets (C c).1)) 8) (iI 0) w1 = _ from x_dPa (h.fr e2) hc _ X6_foldCode_L106 4 0 1000 (by omega) (by omega)]
  unfold X6_foldCode_L106
  obtain ⟨w2, g1, g2⟩ := (h.fr e2).rows5 hc
  rw [g1, bI_s, bnd_e]
  exact x_dAp h hc ha _ n 0 1000 w2 (by omega) (by omega) (e2.tr g2)
theorem x_dCodes (h : XC w cm ln n us C) (hs : ∀ c, c < n → FS (goodN C us cm ln n c) ln (sv c)) (ha : ∀ c b, c < n → b < n → AP (C c) (C b) (av c b)) (K : Int64 → Wd → Option (Int64 × Wd)) : ∀ d k fuel w1, k + d = n → d < fuel → Fr ScX w w1 → ∃ w', X6_digest_L6 fuel K (dgCs sv av C us cm n k) (iI (k : Nat)) w1 = K (dgCs sv av C us cm n n) w' ∧ Fr ScX w w' := by
  have hn := h.1
  intro d
  induction d with
  | zero =>
    intro k fuel w1 hd hf f1
    obtain ⟨f', rfl⟩ : ∃ f', fuel = f' + 1 := ⟨fuel - 1, by omega⟩
    obtain rfl : k = n := by omega
    rw [X6_digest_L6, (h.fr f1).2.2.2.2.1, if_pos (yL (by omega) (by omega) (by omega))]
    exact ⟨w1, rfl, f1⟩
  | succ d ih =>
    intro k fuel w1 hd hf f1
    obtain ⟨f', rfl⟩ : ∃ f', fuel = f' + 1 := ⟨fuel - 1, by omega⟩
    have hw1 := h.fr f1
    obtain ⟨w2, e1, e2⟩ := x_dCode hw1 (show k < n by omega) (hs k (by omega)) (fun b hb => ha k b (by omega) hb) (dgCs sv av C us cm n k)
    rw [X6_digest_L6, hw1.2.2.2.2.1, if_neg (nL (by omega) (by omega) (by omega)), e1, bI_s, bnd_e, iI_add]
    exact ih (k + 1) f' w2 (by omega) (by omega) (f1.tr e2)
theorem x_dUn (h : XC w cm ln n us C) (a : Int64) (K : Int64 → Wd → Option (Int64 × Wd)) : ∀ d k fuel, k + d = cm → d < fuel → X6_digest_L29 fuel K (fL (fun j => iI (us j : Nat)) a k) (iI (k : Nat)) w = K (fL (fun j => iI (us j : Nat)) a cm) w := by
  obtain ⟨h1, h2, h3, h4, h5, h6, h7, h8, h9⟩ := id h
  intro d
  induction d with
  | zero =>
    intro k fuel hd hf
    obtain ⟨f', rfl⟩ : ∃ f', fuel = f' + 1 := ⟨fuel - 1, by omega⟩
    obtain rfl : k = cm := by omega
    rw [X6_digest_L29, h6, if_pos (yL (by omega) (by omega) (by omega))]
  | succ d ih =>
    intro k fuel hd hf
    obtain ⟨f', rfl⟩ : ∃ f', fuel = f' + 1 := ⟨fuel - 1, by omega⟩
    rw [X6_digest_L29, h6, if_neg (nL (by omega) (by omega) (by omega)), ga_n (by omega) (by decide), (h8 k (by omega)).2, bnd_e, bnd_e, iI_add]
    exact ih (k + 1) f' (by omega) (by omega)
theorem x_dPg {pl : Nat} {pg : Nat → Nat} (hp : PageR w pl pg) (a : Int64) (K : Int64 → Wd → Option (Int64 × Wd)) : ∀ d k fuel, k + d = pl → d < fuel → X6_digest_L73 fuel K (fL (fun j => iI (pg j : Nat)) a k) (iI (k : Nat)) w = K (fL (fun j => iI (pg j : Nat)) a pl) w := by
  obtain ⟨h1, h2, h3, h4⟩ := id hp
  intro d
  induction d with
  | zero =>
    intro k fuel hd hf
    obtain ⟨f', rfl⟩ : ∃ f', fuel = f' + 1 := ⟨fuel - 1, by omega⟩
    obtain rfl : k = pl := by omega
    rw [X6_digest_L73, h2, if_pos (yL (by omega) (by omega) (by omega))]
  | succ d ih =>
    intro k fuel hd hf
    obtain ⟨f', rfl⟩ : ∃ f', fuel = f' + 1 := ⟨fuel - 1, by omega⟩
    rw [X6_digest_L73, h2, if_neg (nL (by omega) (by omega) (by omega)), ga_n (by omega) (by decide), (h4 k (by omega)).2.2.1, bnd_e, bnd_e, iI_add]
    exact ih (k + 1) f' (by omega) (by omega)
theorem x_dCn {cv : Nat → Int32} (hv : ∀ k : Nat, X6_count w (iI (k : Nat)) = some (cv k)) (a : Int64) : ∀ d k fuel, k + d = 8 → d < fuel → X6_digest_L101 fuel (fL cv a k) (iI (k : Nat)) w = some (fL cv a 8, w) := by
  intro d
  induction d with
  | zero =>
    intro k fuel hd hf
    obtain ⟨f', rfl⟩ : ∃ f', fuel = f' + 1 := ⟨fuel - 1, by omega⟩
    obtain rfl : k = 8 := by omega
    rw [X6_digest_L101, if_pos (by decide)]
  | succ d ih =>
    intro k fuel hd hf
    obtain ⟨f', rfl⟩ : ∃ f', fuel = f' + 1 := ⟨fuel - 1, by omega⟩
    rw [X6_digest_L101, if_neg (nL (by omega) (by omega) (by omega)), hv k, ob_s, bnd_e, bnd_e, iI_add]
    exact ih (k + 1) f' (by omega) (by omega)
theorem x_dP3 {T : Nat → En} {size : Nat} (g : GoodT T size) (hD : DX w T 0 size) {wo : Int} {pc en cd wt i : Nat} (hT : T 0 = some (wo, pc, en, cd, wt)) (hi : i < pc) (a : Int64) (K : Int64 → Int32 → Int32 → Wd → Option (Int64 × Wd)) (v : Int32) : ∀ d p fuel, p + d = 3 → d < fuel → X6_foldDivision_L71 fuel K (fL (fun i => iI (pv T (i % 3) (i / 3) 0 : Nat)) a (3 * i + p)) v (iI (i : Nat)) (iI (p : Nat)) w = K (fL (fun i => iI (pv T (i % 3) (i / 3) 0 : Nat)) a (3 * i + 3)) v (iI (i : Nat)) w := by
  have h40 := g.1
  have hok := (g.2.1 0 (by omega) wo pc en cd wt hT).2.2.1
  intro d
  induction d with
  | zero =>
    intro p fuel hd hf
    obtain ⟨f', rfl⟩ : ∃ f', fuel = f' + 1 := ⟨fuel - 1, by omega⟩
    obtain rfl : p = 3 := by omega
    rw [X6_foldDivision_L71, if_pos (by decide)]
  | succ d ih =>
    intro p fuel hd hf
    obtain ⟨f', rfl⟩ : ∃ f', fuel = f' + 1 := ⟨fuel - 1, by omega⟩
    have hx := x_prop g hD (p := p) (by omega) i 0 0 1000 wo pc en cd wt (by omega) (by omega) (by omega) hT hi
    rw [show 0 + i = i by omega] at hx
    rw [X6_foldDivision_L71, if_neg (nL (by omega) (by omega) (by omega))]
    unfold X1_propertyOf
    rw [show X1_propertyOf_L5 1000 X1_propertyOf_L30 (iI (i : Nat)) (iI (p : Nat)) (iI 0) (iI 0) w = _ from hx, ob_s, bnd_e, bnd_e, iI_add]
    have := ih (p + 1) f' (by omega) (by omega)
    have e : fL (fun i => iI (pv T (i % 3) (i / 3) 0 : Nat)) a (3 * i + (p + 1)) = (31 : Int64) * fL (fun i => iI (pv T (i % 3) (i / 3) 0 : Nat)) a (3 * i + p) + (iI (pv T p i 0 : Nat)).toInt64 := by
      show (31 : Int64) * fL (fun i => iI (pv T (i % 3) (i / 3) 0 : Nat)) a (3 * i + p) + (iI (pv T ((3 * i + p) % 3) ((3 * i + p) / 3) 0 : Nat)).toInt64 = _
      rw [show (3 * i + p) % 3 = p by omega, show (3 * i + p) / 3 = i by omega]
    rw [e] at this
    exact this
theorem x_dPc {T : Nat → En} {size : Nat} (g : GoodT T size) (hD : DX w T 0 size) {wo : Int} {pc en cd wt : Nat} (hT : T 0 = some (wo, pc, en, cd, wt)) (a : Int64) : ∀ d i fuel, i + d = pc → d < fuel → X6_foldDivision_L61 fuel (fL (fun i => iI (pv T (i % 3) (i / 3) 0 : Nat)) a (3 * i)) (iI (pc : Nat)) (iI (i : Nat)) w = some (fL (fun i => iI (pv T (i % 3) (i / 3) 0 : Nat)) a (3 * pc), w) := by
  have h40 := g.1
  have hok := (g.2.1 0 (by omega) wo pc en cd wt hT).2.2.1
  intro d
  induction d with
  | zero =>
    intro i fuel hd hf
    obtain ⟨f', rfl⟩ : ∃ f', fuel = f' + 1 := ⟨fuel - 1, by omega⟩
    obtain rfl : i = pc := by omega
    rw [X6_foldDivision_L61, if_pos (yL (by omega) (by omega) (by omega))]
  | succ d ih =>
    intro i fuel hd hf
    obtain ⟨f', rfl⟩ : ∃ f', fuel = f' + 1 := ⟨fuel - 1, by omega⟩
    have e := x_dP3 g hD hT (show i < pc by omega) a (X6_foldDivision_L100 (X6_foldDivision_L61 f')) (iI (pc : Nat)) 3 0 1000 (by omega) (by omega)
    rw [X6_foldDivision_L61, if_neg (nL (by omega) (by omega) (by omega)), show X6_foldDivision_L71 1000 (X6_foldDivision_L100 (X6_foldDivision_L61 f')) (fL (fun i => iI (pv T (i % 3) (i / 3) 0 : Nat)) a (3 * i)) (iI (pc : Nat)) (iI (i : Nat)) (iI 0) w = _ from e]
    unfold X6_foldDivision_L100
    rw [bnd_e, iI_add]
    exact ih (i + 1) f' (by omega) (by omega)
theorem x_dT (h : XC w cm ln n us C) (a : Int64) : ∃ w', X6_foldDivision w a = some (dgT (tb C us n cm cm) a, w') ∧ Fr ScX w w' := by
  obtain ⟨h1, h2, h3, h4, h5, h6, h7, h8, h9⟩ := id h
  obtain ⟨w1, a1, a2, a3⟩ := x_divide h
  have f1 : Fr ScX w w1 := a2.mono (fun _ _ _ q => SD_x q)
  have g : GoodT (tb C us n cm cm) cm := tb_good (by omega) h1 (fun c hc => (h9 c hc).1) (fun j hj => (h8 j hj).1)
  unfold X6_foldDivision dgT
  rw [h5, h6, a1, bI_s]
  have z := a3.zero
  cases e : tb C us n cm cm 0 with
  | none =>
    rw [if_pos (show bE (none : En).isSome = 0 from rfl)]
    exact ⟨w1, rfl, f1⟩
  | some t =>
    obtain ⟨wo, pc, en, cd, wt⟩ := t
    have hok := (g.2.1 0 (by omega) wo pc en cd wt e).2.2.1
    rw [e] at z
    have z1 := z.1
    have z2 := z.2
    dsimp only at z1 z2
    rw [if_neg (show ¬ bE (some (wo, pc, en, cd, wt)).isSome = 0 by show ¬ bE true = 0; decide)]
    unfold X1_worth X1_pieceCount
    rw [ga_e (k := 0) (by omega) (by omega) (by decide), z1, ob_s, bnd_e, ga_e (k := 0) (by omega) (by omega) (by decide), z2, ob_s, bnd_e]
    exact ⟨w1, x_dPc g a3 e _ pc 0 1000 (by omega) (by omega), f1⟩
end DIGX

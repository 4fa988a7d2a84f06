/-! sure: leads and hopes. -/
def omx (a b : Option Int) : Option Int := match a with
  | none => b
  | some x => match b with
    | none => some x
    | some y => some (max x y)
def cnd (C1 C2 : Cd) (L : Nat → Nat → Option Int) (p1 p2 u : Nat) : Option Int := match nx C1 p1 u with
  | none => none
  | some q1 => match nx C2 p2 u with
    | none => none
    | some q2 => match L q1 q2 with
      | none => none
      | some z => some (z + (gn C2 p2 u : Nat) - (gn C1 p1 u : Nat))
def ldU (C1 C2 : Cd) (L : Nat → Nat → Option Int) (p1 p2 : Nat) : Nat → Option Int
  | 0 => none
  | u + 1 => omx (ldU C1 C2 L p1 p2 u) (cnd C1 C2 L p1 p2 u)
/-- the greatest lead that the second can win over the first in k more units -/
def ld (C1 C2 : Cd) : Nat → Nat → Nat → Option Int
  | 0, p1, p2 => if p1 < 3 ∧ p2 < 3 then some 0 else none
  | k + 1, p1, p2 => ldU C1 C2 (ld C1 C2 k) p1 p2 8
def oBd (B : Nat) (o : Option Int) : Prop := ∀ z, o = some z → -(B : Int) ≤ z ∧ z ≤ B
theorem omx_bd {B : Nat} {a b : Option Int} (ha : oBd B a) (hb : oBd B b) : oBd B (omx a b) := by
  cases a with
  | none => exact hb
  | some x =>
    cases b with
    | none => exact ha
    | some y =>
      intro z hz
      have h1 := ha x rfl
      have h2 := hb y rfl
      cases hz
      omega
theorem cnd_bd {C1 C2 : Cd} (k1 : cok C1) (k2 : cok C2) {L : Nat → Nat → Option Int} {B : Nat} (hL : ∀ a b, oBd B (L a b)) {p1 p2 u : Nat} (hu : u < 8) : oBd (B + 9) (cnd C1 C2 L p1 p2 u) := by
  intro z hz
  have g1 := gn_le k1 (p := p1) hu
  have g2 := gn_le k2 (p := p2) hu
  unfold cnd at hz
  cases e1 : nx C1 p1 u with
  | none => rw [e1] at hz; cases hz
  | some q1 =>
    rw [e1] at hz
    cases e2 : nx C2 p2 u with
    | none => rw [e2] at hz; cases hz
    | some q2 =>
      rw [e2] at hz
      dsimp only at hz
      cases e3 : L q1 q2 with
      | none => rw [e3] at hz; cases hz
      | some y =>
        rw [e3] at hz
        have := hL q1 q2 y e3
        cases hz
        omega
theorem ldU_bd {C1 C2 : Cd} (k1 : cok C1) (k2 : cok C2) {L : Nat → Nat → Option Int} {B : Nat} (hL : ∀ a b, oBd B (L a b)) {p1 p2 : Nat} : ∀ u, u ≤ 8 → oBd (B + 9) (ldU C1 C2 L p1 p2 u) := by
  intro u
  induction u with
  | zero => intro _ z hz; cases hz
  | succ u ih => intro hu; exact omx_bd (ih (by omega)) (cnd_bd k1 k2 hL (by omega))
theorem ld_bd {C1 C2 : Cd} (k1 : cok C1) (k2 : cok C2) : ∀ k p1 p2, oBd (9 * k) (ld C1 C2 k p1 p2) := by
  intro k
  induction k with
  | zero =>
    intro p1 p2 z hz
    unfold ld at hz
    split at hz
    · cases hz; omega
    · cases hz
  | succ k ih => intro p1 p2; exact ldU_bd k1 k2 ih 8 (Nat.le_refl _)
theorem ldU_ge {C1 C2 : Cd} {L : Nat → Nat → Option Int} {p1 p2 u : Nat} {z : Int} (h : cnd C1 C2 L p1 p2 u = some z) : ∀ m, u < m → ∃ y, ldU C1 C2 L p1 p2 m = some y ∧ z ≤ y := by
  intro m
  induction m with
  | zero => intro q; omega
  | succ m ih =>
    intro q
    unfold ldU
    by_cases e : u = m
    · subst e
      rw [h]
      cases ldU C1 C2 L p1 p2 u with
      | none => exact ⟨z, rfl, Int.le_refl _⟩
      | some x => exact ⟨max x z, rfl, by omega⟩
    · obtain ⟨y, e1, e2⟩ := ih (by omega)
      rw [e1]
      cases cnd C1 C2 L p1 p2 m with
      | none => exact ⟨y, rfl, e2⟩
      | some x => exact ⟨max y x, rfl, by omega⟩
theorem cnd_n1 {C1 C2 : Cd} {L : Nat → Nat → Option Int} {p1 p2 u : Nat} (h : nx C1 p1 u = none) : cnd C1 C2 L p1 p2 u = none := by unfold cnd; rw [h]
theorem cnd_n2 {C1 C2 : Cd} {L : Nat → Nat → Option Int} {p1 p2 u : Nat} (h : nx C2 p2 u = none) : cnd C1 C2 L p1 p2 u = none := by
  unfold cnd; rw [h]; cases nx C1 p1 u <;> rfl
theorem omx_n (a : Option Int) : omx a none = a := by cases a <;> rfl
theorem nx_out {C : Cd} {p u : Nat} (h : 3 * ms C ≤ p) : nx C p u = none := by
  unfold nx trc
  rw [if_neg (by omega)]
theorem ldU_n1 {C1 C2 : Cd} {L : Nat → Nat → Option Int} {p1 p2 : Nat} (h : 3 * ms C1 ≤ p1) : ∀ u, ldU C1 C2 L p1 p2 u = none := by
  intro u
  induction u with
  | zero => rfl
  | succ u ih => unfold ldU; rw [ih, cnd_n1 (nx_out h)]; rfl
theorem ldU_n2 {C1 C2 : Cd} {L : Nat → Nat → Option Int} {p1 p2 : Nat} (h : 3 * ms C2 ≤ p2) : ∀ u, ldU C1 C2 L p1 p2 u = none := by
  intro u
  induction u with
  | zero => rfl
  | succ u ih => unfold ldU; rw [ih, cnd_n2 (nx_out h)]; rfl
def eX (o : Option Int) : Int32 := iI (o.getD (-1000000))
theorem eX_max {o : Option Int} {z : Int} (ho : oBd 1000 o) (hz : -1000 ≤ z ∧ z ≤ 1000) : imax (eX o) (iI z) = eX (omx o (some z)) := by
  cases o with
  | none =>
    show imax (iI (-1000000)) (iI z) = iI z
    rw [imax_iI (by decide) (by omega)]; congr 1; omega
  | some x =>
    have := ho x rfl
    show imax (iI x) (iI z) = iI (max x z)
    rw [imax_iI (by omega) (by omega)]
def LdX (w : Wd) (L : Nat → Nat → Option Int) : Prop := ∀ a b, a < 15 → b < 15 → rd w 9 1 (a * 15 + b) = eX (L a b)
def oL (L : Nat → Nat → Option Int) (a : Nat) (o : Option Nat) : Option Int := match o with
  | none => none
  | some b => L a b
theorem x_leadAt {w : Wd} {L : Nat → Nat → Option Int} (h : LdX w L) {a : Nat} (ha : a < 15) {o : Option Nat} (ho : ∀ b, o = some b → b < 15) : X3_leadAt w (iI (a : Nat)) (oE o) = some (eX (oL L a o)) := by
  unfold X3_leadAt
  rw [if_neg (nT0 (by omega) (by omega)), if_neg (nL (by omega) (by omega) (by omega))]
  cases o with
  | none => rw [show oE none = iI (-1) from rfl, if_pos (by decide)]; rfl
  | some b =>
    have hb := ho b rfl
    rw [show oE (some b) = iI (b : Nat) from rfl, if_neg (nT0 (by omega) (by omega)), if_pos (yT (by omega) (by omega) (by omega)), iI_mul, iI_add, ga_e (k := a * 15 + b) (by omega) (by omega) (by decide), h a b ha hb]; rfl
theorem x_leadAtN {w : Wd} {b : Int32} : X3_leadAt w (iI (-1)) b = some (eX none) := by
  unfold X3_leadAt
  rw [if_pos (by decide)]; rfl
def SO (g _o _j : Nat) : Prop := g = 9
def SOr (p1 : Nat) : Nat → Nat → Nat → Prop := fun g o j => g = 9 ∧ o = 2 ∧ p1 * 15 ≤ j ∧ j < p1 * 15 + 15
section LEADX
variable {w : Wd} {g1 g2 : Nat} {C1 C2 : Cd} {L : Nat → Nat → Option Int}
theorem x_lenBy (c2 : CodeX w g2 C2) (k1 : cok C1) (k2 : cok C2) (hg2 : g2 < 5) (hLb : ∀ a b, oBd 400 (L a b)) {u p1 q1 : Nat} (hu : u < 8) (hp : p1 < 15) (hn : nx C1 p1 u = some q1) :
    ∀ d j fuel w1, j + d = 3 * ms C2 → d < fuel → Fr SO w w1 → LdX w1 L → (∀ b, b < 15 → rd w1 9 2 (p1 * 15 + b) = eX (if b < j then ldU C1 C2 L p1 b (u + 1) else ldU C1 C2 L p1 b u)) → ∃ w', X3_lengthenBy_L15 fuel g2 (iI (u : Nat)) (iI (p1 : Nat)) (iI (q1 : Nat)) (iI (gn C1 p1 u : Nat)) (iI ((3 * ms C2 : Nat) : Int)) (iI (j : Nat)) w1 = some w' ∧ Fr (SOr p1) w1 w' ∧ (∀ b, b < 15 → rd w' 9 2 (p1 * 15 + b) = eX (ldU C1 C2 L p1 b (u + 1))) := by
  have hms := ms_le C2
  have hms1 := ms_le C1
  have hq1 : q1 < 15 := by have := (nx_lt k1 hu hn).1; omega
  intro d
  induction d with
  | zero =>
    intro j fuel w1 hd hf f1 hL hc
    obtain ⟨f', rfl⟩ : ∃ f', fuel = f' + 1 := ⟨fuel - 1, by omega⟩
    rw [X3_lengthenBy_L15, if_pos (yL (by omega) (by omega) (by omega))]
    refine ⟨w1, rfl, Fr.rf _ w1, fun b hb => ?_⟩
    rw [hc b hb]
    by_cases q : b < j
    · rw [if_pos q]
    · rw [if_neg q, ldU_n2 (by omega), ldU_n2 (by omega)]
  | succ d ih =>
    intro j fuel w1 hd hf f1 hL hc
    obtain ⟨f', rfl⟩ : ∃ f', fuel = f' + 1 := ⟨fuel - 1, by omega⟩
    have cx : CodeX w1 g2 C2 := c2.fr (fun o j _ => f1.1 _ o j (by unfold SO; omega))
    have hjc := hc j (by omega)
    rw [if_neg (by omega)] at hjc
    have G1 := gn_le k1 (p := p1) hu
    have G2 := gn_le k2 (p := j) hu
    rw [X3_lengthenBy_L15, if_neg (nL (by omega) (by omega) (by omega)), x_nextState cx (by omega) hu, ob_s, x_leadAt hL hq1 (fun b hb => by have := (nx_lt k2 hu hb).1; omega), ob_s]
    simp only [bnd_e, iI_add]
    have stay : cnd C1 C2 L p1 j u = none → ∃ w', X3_lengthenBy_L15 f' g2 (iI (u : Nat)) (iI (p1 : Nat)) (iI (q1 : Nat)) (iI (gn C1 p1 u : Nat)) (iI ((3 * ms C2 : Nat) : Int)) (iI ((j : Int) + 1)) w1 = some w' ∧ Fr (SOr p1) w1 w' ∧ (∀ b, b < 15 → rd w' 9 2 (p1 * 15 + b) = eX (ldU C1 C2 L p1 b (u + 1))) := by
      intro hcn
      refine ih (j + 1) f' w1 (by omega) (by omega) f1 hL (fun b hb => ?_)
      rw [hc b hb]
      by_cases q : b < j
      · rw [if_pos q, if_pos (by omega)]
      · rw [if_neg q]
        by_cases q2 : b = j
        · subst q2
          rw [if_pos (by omega)]
          show _ = eX (omx (ldU C1 C2 L p1 b u) (cnd C1 C2 L p1 b u))
          rw [hcn, omx_n]
        · rw [if_neg (by omega)]
    cases e2 : nx C2 j u with
    | none =>
      rw [if_pos (show eX (oL L q1 none) = iI (-1000000) from rfl)]
      exact stay (cnd_n2 e2)
    | some q2 =>
      rw [show oL L q1 (some q2) = L q1 q2 from rfl]
      cases e3 : L q1 q2 with
      | none =>
        rw [if_pos (show eX none = iI (-1000000) from rfl)]
        exact stay (by unfold cnd; rw [hn, e2]; dsimp only; rw [e3])
      | some z =>
        have hz := hLb q1 q2 z e3
        have hcn : cnd C1 C2 L p1 j u = some (z + (gn C2 j u : Nat) - (gn C1 p1 u : Nat)) := by unfold cnd; rw [hn, e2]; dsimp only; rw [e3]
        have hne : ¬ eX (some z) = iI (-1000000) := nE (by show z ≠ -1000000; omega) (by show inR z; omega) (by decide)
        rw [if_neg hne, x_gain cx (by omega) hu, ob_s, show eX (some z) = iI z from rfl, iI_add, iI_sub, iI_mul, iI_add, ga_e (k := p1 * 15 + j) (by omega) (by omega) (by decide), hjc, pa_e (k := p1 * 15 + j) (by omega) (by omega) (by decide), eX_max (fun y hy => by have := ldU_bd k1 k2 hLb (p1 := p1) (p2 := j) u (by omega) y hy; omega) (by omega), ← hcn]
        have hS : SOr p1 9 2 (p1 * 15 + j) := by unfold SOr; omega
        obtain ⟨w2, r1, r2, r3⟩ := ih (j + 1) f' (wr w1 9 2 (p1 * 15 + j) (eX (omx (ldU C1 C2 L p1 j u) (cnd C1 C2 L p1 j u)))) (by omega) (by omega) (f1.wr _ rfl) (fun a b ha hb => by rw [rd_o (by decide)]; exact hL a b ha hb) (fun b hb => by
          by_cases q : b = j
          · subst q; rw [rd_eq, if_pos (by omega)]; rfl
          · rw [rd_j (by omega), hc b hb]
            by_cases q2 : b < j
            · rw [if_pos q2, if_pos (by omega)]
            · rw [if_neg q2, if_neg (by omega)])
        exact ⟨w2, r1, ((Fr.rf _ w1).wr _ hS).tr r2, r3⟩
theorem x_lenU (c1 : CodeX w g1 C1) (c2 : CodeX w g2 C2) (k1 : cok C1) (k2 : cok C2) (hg1 : g1 < 5) (hg2 : g2 < 5) (hLb : ∀ a b, oBd 400 (L a b)) {p1 : Nat} (hp : p1 < 15) (K : Int32 → Int32 → Wd → Option Wd) (v : Int32) :
    ∀ d u fuel w1, u + d = 8 → d < fuel → Fr SO w w1 → LdX w1 L → (∀ b, b < 15 → rd w1 9 2 (p1 * 15 + b) = eX (ldU C1 C2 L p1 b u)) → ∃ w', X3_lengthen_L31 fuel K g1 g2 v (iI (p1 : Nat)) (iI (u : Nat)) w1 = K v (iI (p1 : Nat)) w' ∧ Fr (SOr p1) w1 w' ∧ (∀ b, b < 15 → rd w' 9 2 (p1 * 15 + b) = eX (ldU C1 C2 L p1 b 8)) := by
  have hms := ms_le C2
  have hms1 := ms_le C1
  intro d
  induction d with
  | zero =>
    intro u fuel w1 hd hf f1 hL hc
    obtain ⟨f', rfl⟩ : ∃ f', fuel = f' + 1 := ⟨fuel - 1, by omega⟩
    obtain rfl : u = 8 := by omega
    rw [X3_lengthen_L31, if_pos (by decide)]
    exact ⟨w1, rfl, Fr.rf _ w1, hc⟩
  | succ d ih =>
    intro u fuel w1 hd hf f1 hL hc
    obtain ⟨f', rfl⟩ : ∃ f', fuel = f' + 1 := ⟨fuel - 1, by omega⟩
    have cx1 : CodeX w1 g1 C1 := c1.fr (fun o j _ => f1.1 _ o j (by unfold SO; omega))
    have cx2 : CodeX w1 g2 C2 := c2.fr (fun o j _ => f1.1 _ o j (by unfold SO; omega))
    rw [X3_lengthen_L31, if_neg (nL (by omega) (by omega) (by omega)), x_nextState cx1 hp (show u < 8 by omega), ob_s]
    simp only [bnd_e, iI_add]
    cases e1 : nx C1 p1 u with
    | none =>
      rw [show oE none = iI (-1) from rfl, if_pos rfl]
      refine ih (u + 1) f' w1 (by omega) (by omega) f1 hL (fun b hb => ?_)
      rw [hc b hb]
      show _ = eX (omx (ldU C1 C2 L p1 b u) (cnd C1 C2 L p1 b u))
      rw [cnd_n1 e1, omx_n]
    | some q1 =>
      have hq := (nx_lt k1 (show u < 8 by omega) e1).1
      rw [show oE (some q1) = iI (q1 : Nat) from rfl, if_neg (nE (by omega) (by omega) (by omega)), x_gain cx1 hp (show u < 8 by omega), ob_s]
      unfold X3_lengthenBy X0_states
      rw [cx2.2.2.1, iI_mul, imin_iI (by omega) (by decide), bnd_e, show min ((ms C2 : Int) * 3) 15 = ((3 * ms C2 : Nat) : Int) by omega]
      obtain ⟨w2, r1, r2, r3⟩ := x_lenBy (w := w1) (L := L) cx2 k1 k2 hg2 hLb (show u < 8 by omega) hp e1 (3 * ms C2) 0 1000 w1 (by omega) (by omega) (Fr.rf _ w1) hL (fun b hb => by rw [if_neg (by omega)]; exact hc b hb)
      rw [show (iI 0 : Int32) = iI ((0 : Nat) : Int) from rfl, r1, ob_s]
      obtain ⟨w3, s1, s2, s3⟩ := ih (u + 1) f' w2 (by omega) (by omega) (f1.tr (r2.mono (fun g o j hh => hh.1))) (fun a b ha hb => by rw [r2.1 _ _ _ (by unfold SOr; omega)]; exact hL a b ha hb) r3
      exact ⟨w3, s1, r2.tr s2, s3⟩
theorem x_lenP (c1 : CodeX w g1 C1) (c2 : CodeX w g2 C2) (k1 : cok C1) (k2 : cok C2) (hg1 : g1 < 5) (hg2 : g2 < 5) (hLb : ∀ a b, oBd 400 (L a b)) (K : Wd → Option Wd) :
    ∀ d p fuel w1, p + d = 3 * ms C1 → d < fuel → Fr SO w w1 → LdX w1 L → (∀ a b, a < 15 → b < 15 → rd w1 9 2 (a * 15 + b) = eX (if a < p then ldU C1 C2 L a b 8 else none)) → ∃ w', X3_lengthen_L22 fuel K g1 g2 (iI ((3 * ms C1 : Nat) : Int)) (iI (p : Nat)) w1 = K w' ∧ Fr SO w w' ∧ (∀ a b, a < 15 → b < 15 → rd w' 9 2 (a * 15 + b) = eX (ldU C1 C2 L a b 8)) := by
  have hms1 := ms_le C1
  intro d
  induction d with
  | zero =>
    intro p fuel w1 hd hf f1 hL hc
    obtain ⟨f', rfl⟩ : ∃ f', fuel = f' + 1 := ⟨fuel - 1, by omega⟩
    rw [X3_lengthen_L22, if_pos (yL (by omega) (by omega) (by omega))]
    refine ⟨w1, rfl, f1, fun a b ha hb => ?_⟩
    rw [hc a b ha hb]
    by_cases q : a < p
    · rw [if_pos q]
    · rw [if_neg q, ldU_n1 (by omega)]
  | succ d ih =>
    intro p fuel w1 hd hf f1 hL hc
    obtain ⟨f', rfl⟩ : ∃ f', fuel = f' + 1 := ⟨fuel - 1, by omega⟩
    have cx1 : CodeX w1 g1 C1 := c1.fr (fun o j _ => f1.1 _ o j (by unfold SO; omega))
    have cx2 : CodeX w1 g2 C2 := c2.fr (fun o j _ => f1.1 _ o j (by unfold SO; omega))
    obtain ⟨w2, r1, r2, r3⟩ := x_lenU (w := w1) (L := L) cx1 cx2 k1 k2 hg1 hg2 hLb (show p < 15 by omega) (X3_lengthen_L79 (X3_lengthen_L22 f' K g1 g2) g1 g2) (iI ((3 * ms C1 : Nat) : Int)) 8 0 1000 w1 (by omega) (by omega) (Fr.rf _ w1) hL (fun b hb => by rw [hc p b (by omega) hb, if_neg (by omega)]; rfl)
    rw [X3_lengthen_L22, if_neg (nL (by omega) (by omega) (by omega)), show (iI 0 : Int32) = iI ((0 : Nat) : Int) from rfl, r1]
    unfold X3_lengthen_L79
    rw [bnd_e, iI_add]
    refine ih (p + 1) f' w2 (by omega) (by omega) (f1.tr (r2.mono (fun g o j hh => hh.1))) (fun a b ha hb => by rw [r2.1 _ _ _ (by unfold SOr; omega)]; exact hL a b ha hb) (fun a b ha hb => ?_)
    by_cases q : a = p
    · subst q; rw [r3 b hb, if_pos (by omega)]
    · rw [r2.1 _ _ _ (by unfold SOr; omega), hc a b ha hb]
      by_cases q2 : a < p
      · rw [if_pos q2, if_pos (by omega)]
      · rw [if_neg q2, if_neg (by omega)]
theorem x_lengthen (c1 : CodeX w g1 C1) (c2 : CodeX w g2 C2) (k1 : cok C1) (k2 : cok C2) (hg1 : g1 < 5) (hg2 : g2 < 5) (hLb : ∀ a b, oBd 400 (L a b)) (hL : LdX w L) : ∃ w', X3_lengthen w g1 g2 = some w' ∧ Fr SO w w' ∧ LdX w' (fun a b => ldU C1 C2 L a b 8) := by
  have hms1 := ms_le C1
  have f1 : Fr SO w (wfill w 9 2 225 (iI (-1000000))) := ⟨fun g o j q => by rw [rd_fill]; exact if_neg (fun z => q z.1), rfl⟩
  unfold X3_lengthen X0_states
  rw [bnd_e, f1.1 g1 0 3 (by unfold SO; omega), c1.2.2.1, iI_mul, imin_iI (by omega) (by decide), bnd_e, show min ((ms C1 : Int) * 3) 15 = ((3 * ms C1 : Nat) : Int) by omega]
  obtain ⟨w2, r1, r2, r3⟩ := x_lenP (w := w) (L := L) c1 c2 k1 k2 hg1 hg2 hLb (X3_lengthen_L85 g1 g2) (3 * ms C1) 0 1000 (wfill w 9 2 225 (iI (-1000000))) (by omega) (by omega) f1 (fun a b ha hb => by rw [rd_fill, if_neg (by omega)]; exact hL a b ha hb) (fun a b ha hb => by rw [rd_fill, if_pos (by omega), if_neg (by omega)]; rfl)
  rw [show (iI 0 : Int32) = iI ((0 : Nat) : Int) from rfl, r1]
  unfold X3_lengthen_L85
  rw [bnd_e]
  refine ⟨_, rfl, r2.tr ⟨fun g o j q => by rw [rd_copy]; exact if_neg (fun z => q z.1), rfl⟩, fun a b ha hb => ?_⟩
  rw [rd_copy, if_pos (by omega)]
  exact r3 a b ha hb
end LEADX

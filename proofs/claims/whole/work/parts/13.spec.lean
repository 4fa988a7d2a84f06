/-! What the words of the document mean, as functions of natural numbers; and how the numbers of class and reference hold them. -/
/-- a code: kind, digit, marks, points -/
abbrev Cd : Type := Nat × Nat × (Nat → Nat) × (Nat → Nat)
def sEnds (mk st : Nat) : Option (Nat × Nat) := if mk = 2 then none else some (st, mk + 1)
/-- one unit: from a mode to the next one, and the sort of the sign that ends (1 A, 2 B, 0 none) -/
def tr (C : Cd) (m u : Nat) : Option (Nat × Nat) :=
  if C.1 = 1 then (if m = 0 then (if u < C.2.1 then sEnds (C.2.2.1 u) 0 else some (1, 0)) else sEnds (C.2.2.1 u) 0)
  else if C.1 = 2 then (if m = 0 then (if C.2.2.1 u = 7 then none else if 2 < C.2.2.1 u then some (C.2.2.1 u - 2, 0) else sEnds (C.2.2.1 u) 0) else if C.2.2.1 u = 7 then (if 3 ≤ m then some (m - 2, 0) else some (0, m)) else none)
  else if C.1 = 3 then (if u = C.2.1 then some (1 - m, 0) else sEnds (C.2.2.1 (8 * m + u)) m)
  else sEnds (C.2.2.1 u) 0
def ms (C : Cd) : Nat := if C.1 = 2 then 5 else if C.1 = 0 then 1 else 2
def trc (C : Cd) (m u : Nat) : Option (Nat × Nat) := if m < ms C then tr C m u else none
def cok (C : Cd) : Prop := C.1 < 4 ∧ C.2.1 < 8 ∧ (∀ i, i < 16 → C.2.2.1 i < 8 ∧ (C.1 ≠ 2 → C.2.2.1 i < 3)) ∧ ∀ i, i < 4 → C.2.2.2 i < 10
theorem tr_ok {C : Cd} (h : cok C) {m u m' s : Nat} (hm : m < ms C) (hu : u < 8) (e : tr C m u = some (m', s)) : m' < ms C ∧ s < 3 := by
  obtain ⟨h1, h2, h3, h4⟩ := h
  have hk := h3 u (by omega)
  unfold ms at hm ⊢
  unfold tr sEnds at e
  by_cases k1 : C.1 = 1
  · simp only [k1, if_true] at e hm ⊢
    have := hk.2 (by omega)
    revert e
    repeat' split
    all_goals (intro e; first | (cases e; done) | (simp only [Option.some.injEq, Prod.mk.injEq] at e; omega))
  · by_cases k2 : C.1 = 2
    · simp only [k2, if_true] at e hm ⊢
      revert e
      repeat' split
      all_goals (intro e; first | (cases e; done) | (simp only [Option.some.injEq, Prod.mk.injEq] at e; omega))
    · by_cases k3 : C.1 = 3
      · have := (h3 (8 * m + u) (by simp only [k3] at hm; simp at hm; omega)).2 k2
        simp only [k3] at e hm ⊢
        simp at e hm ⊢
        revert e
        repeat' split
        all_goals (intro e; first | (cases e; done) | (simp only [Option.some.injEq, Prod.mk.injEq] at e; omega))
      · have k0 : C.1 = 0 := by omega
        have := hk.2 k2
        simp only [k0] at e hm ⊢
        simp at e hm ⊢
        omega
/-- a place: mode * 3 + the sort of the last sign; the next place, and the gain -/
def nx (C : Cd) (p u : Nat) : Option Nat := match trc C (p / 3) u with
  | none => none
  | some q => if q.2 = 0 then some (3 * q.1 + p % 3) else some (3 * q.1 + q.2)
def gn (C : Cd) (p u : Nat) : Nat := match trc C (p / 3) u with
  | none => 0
  | some q => if q.2 = 0 then 0 else if p % 3 = 0 then 0 else C.2.2.2 ((p % 3 - 1) * 2 + (q.2 - 1))
def dgs (k : Nat) : Nat := if k = 1 then 1 else if k = 3 then 1 else 0
def mks (k : Nat) : Nat := if k = 3 then 16 else 8
def lets (k : Nat) : Nat := 1 + dgs k + mks k + 4
def letr (k : Nat) : Nat := if k = 0 then 102 else if k = 1 then 112 else if k = 2 then 99 else 116
def mletr (m : Nat) : Nat := if m = 0 then 97 else if m = 1 then 98 else if m = 2 then 33 else if m = 7 then 43 else 96 + m
/-- the text of a code -/
def inkc (C : Cd) (j : Nat) : Nat := if j = 0 then letr C.1 else if j < 1 + dgs C.1 then 48 + C.2.1 else if j < 1 + dgs C.1 + mks C.1 then mletr (C.2.2.1 (j - 1 - dgs C.1)) else 48 + C.2.2.2 (j - 1 - dgs C.1 - mks C.1)
def mvE (q : Option (Nat × Nat)) : Int32 := match q with
  | none => iI (-1)
  | some q => iI ((3 * q.1 + q.2 : Nat) : Int)
def oE (q : Option Nat) : Int32 := match q with
  | none => iI (-1)
  | some q => iI (q : Int)
/-- the class's tables of a code, at group g -/
def CodeX (w : Wd) (g : Nat) (C : Cd) : Prop :=
  rd w g 0 1 = iI (lets C.1 : Nat) ∧ rd w g 0 2 = iI (C.1 : Nat) ∧ rd w g 0 3 = iI (ms C : Nat) ∧ (∀ j, j < lets C.1 → rd w g 1 j = iI (inkc C j : Nat)) ∧
  (∀ m u, m < 5 → u < 8 → rd w g 2 (m * 8 + u) = mvE (trc C m u)) ∧ (∀ p u, p < 15 → u < 8 → rd w g 3 (p * 8 + u) = oE (nx C p u)) ∧ (∀ p u, p < 15 → u < 8 → rd w g 4 (p * 8 + u) = iI (gn C p u : Nat))
/-- the reference's numbers of code c -/
def CodeM (w : Wd) (c : Nat) (C : Cd) : Prop :=
  rd w 12 1 c = iI (C.1 : Nat) ∧ rd w 12 2 c = iI (C.2.1 : Nat) ∧ (∀ k, k < 16 → rd w 12 3 (16 * c + k) = iI (C.2.2.1 k : Nat)) ∧ ∀ k, k < 4 → rd w 12 4 (4 * c + k) = iI (C.2.2.2 k : Nat)
/-- what a code makes of the first k units: alive, units stood, place, signs, weight, pairs -/
abbrev Rn : Type := Bool × Nat × Nat × Nat × Nat × (Nat → Nat)
def rn0 : Rn := (true, 0, 0, 0, 0, fun _ => 0)
def rnS (C : Cd) (u : Nat) (r : Rn) : Rn := match r with
  | (a, sd, p, sg, wt, pr) => if a = true then (match trc C (p / 3) u with
    | none => (false, sd, p, sg, wt, pr)
    | some q => if q.2 = 0 then (true, sd + 1, 3 * q.1 + p % 3, sg, wt, pr) else if p % 3 = 0 then (true, sd + 1, 3 * q.1 + q.2, sg + 1, wt, pr) else (true, sd + 1, 3 * q.1 + q.2, sg + 1, wt + C.2.2.2 ((p % 3 - 1) * 2 + (q.2 - 1)), fun i => if i = (p % 3 - 1) * 2 + (q.2 - 1) then pr i + 1 else pr i)) else r
/-- from unit number f on, k units -/
def rnF (C : Cd) (us : Nat → Nat) (f : Nat) : Nat → Rn
  | 0 => rn0
  | k + 1 => rnS C (us (f + k)) (rnF C us f k)
abbrev rn (C : Cd) (us : Nat → Nat) (k : Nat) : Rn := rnF C us 0 k
/-- a Reading, at group g, of the first cm units -/
def ReadX (w : Wd) (g : Nat) (C : Cd) (us : Nat → Nat) (cm : Nat) : Prop :=
  (∀ k, k ≤ cm → (rn C us k).1 = true → rd w g 1 k = iI ((rn C us k).2.2.1 : Nat) ∧ rd w g 2 k = iI ((rn C us k).2.2.2.2.1 : Nat)) ∧
  (∀ i, i < 4 → rd w g 3 i = iI ((rn C us cm).2.2.2.2.2 i : Nat)) ∧ rd w g 0 4 = iI ((rn C us cm).2.2.2.1 : Nat) ∧ rd w g 0 5 = iI ((rn C us cm).2.1 : Nat) ∧ rd w g 0 6 = (if (rn C us cm).1 = true then iI 1 else iI 0)
/-- the abstract state: page length, units come, length, codes; units, page, codes themselves -/
abbrev Ab : Type := (Nat × Nat × Nat × Nat) × (Nat → Nat) × (Nat → Nat) × (Nat → Cd)
def PageR (w : Wd) (pl : Nat) (pg : Nat → Nat) : Prop := pl ≤ 40 ∧ rd w 0 0 1 = iI (pl : Nat) ∧ rd w 12 0 10 = iI (pl : Nat) ∧ ∀ j, j < pl → 32 ≤ pg j ∧ pg j < 127 ∧ rd w 0 1 j = iI (pg j : Nat) ∧ rd w 12 6 j = iI (pg j : Nat)
def UnitR (w : Wd) (cm ln : Nat) (us : Nat → Nat) : Prop := 1 ≤ ln ∧ ln ≤ 40 ∧ cm ≤ ln ∧ rd w 0 0 3 = iI (cm : Nat) ∧ rd w 12 0 8 = iI (cm : Nat) ∧ rd w 0 0 4 = iI (ln : Nat) ∧ rd w 12 0 7 = iI (ln : Nat) ∧ ∀ j, j < cm → us j < 8 ∧ rd w 0 2 j = iI (us j : Nat) ∧ rd w 12 5 j = iI (us j : Nat)
def EverR (w : Wd) : Prop := rd w 0 0 8 = rd w 12 0 5 ∧ rd w 0 0 9 = rd w 12 0 6
def CodesR (w : Wd) (n : Nat) (C : Nat → Cd) : Prop := n ≤ 4 ∧ rd w 0 0 7 = iI (n : Nat) ∧ rd w 12 0 0 = iI (n : Nat) ∧ ∀ c, c < n → cok (C c) ∧ CodeX w (c + 1) (C c) ∧ CodeM w c (C c)
def ReadsR (w : Wd) (n : Nat) (C : Nat → Cd) (us : Nat → Nat) (cm : Nat) : Prop := ∀ c, c < n → ReadX w (c + 5) (C c) us cm
def RelA (w : Wd) (pl cm ln n : Nat) (us pg : Nat → Nat) (C : Nat → Cd) : Prop := PageR w pl pg ∧ UnitR w cm ln us ∧ EverR w ∧ CodesR w n C ∧ ReadsR w n C us cm
def Rel (w : Wd) : Prop := ∃ pl cm ln n us pg C, RelA w pl cm ln n us pg C
/-- what is laid anew at every use: the class's and the reference's own -/
def ScX (g o _j : Nat) : Prop := g = 9 ∨ g = 10 ∨ g = 11 ∨ ((1 ≤ g ∧ g ≤ 4) ∧ (o = 5 ∨ o = 6))
def ScM (g o j : Nat) : Prop := g = 12 ∧ ((o = 0 ∧ (12 ≤ j ∧ j ≤ 18 ∨ j = 25)) ∨ 7 ≤ o)
def Sc (g o j : Nat) : Prop := ScX g o j ∨ ScM g o j
theorem sc0 (o j : Nat) : ¬ Sc 0 o j := by unfold Sc ScX ScM; omega
theorem scC {c o j : Nat} (h1 : c < 4) (h2 : o < 5) : ¬ Sc (c + 1) o j := by unfold Sc ScX ScM; omega
theorem scR {c o j : Nat} (h1 : c < 4) : ¬ Sc (c + 5) o j := by unfold Sc ScX ScM; omega
theorem scF {j : Nat} (h : j < 12) : ¬ Sc 12 0 j := by unfold Sc ScX ScM; omega
theorem scM {o j : Nat} (h1 : 1 ≤ o) (h : o < 7) : ¬ Sc 12 o j := by unfold Sc ScX ScM; omega
theorem CodeX.fr {w w' : Wd} {g : Nat} {C : Cd} (h : CodeX w g C) (e : ∀ o j, o < 5 → rd w' g o j = rd w g o j) : CodeX w' g C := by
  unfold CodeX at h ⊢
  simp only [e 0 _ (by decide), e 1 _ (by decide), e 2 _ (by decide), e 3 _ (by decide), e 4 _ (by decide)]
  exact h
theorem CodeM.fr {w w' : Wd} {c : Nat} {C : Cd} (h : CodeM w c C) (e : ∀ o j, 1 ≤ o → o < 5 → rd w' 12 o j = rd w 12 o j) : CodeM w' c C := by
  unfold CodeM at h ⊢
  simp only [e 1 _ (by decide) (by decide), e 2 _ (by decide) (by decide), e 3 _ (by decide) (by decide), e 4 _ (by decide) (by decide)]
  exact h
theorem ReadX.fr {w w' : Wd} {g : Nat} {C : Cd} {us : Nat → Nat} {cm : Nat} (h : ReadX w g C us cm) (e : ∀ o j, rd w' g o j = rd w g o j) : ReadX w' g C us cm := by
  unfold ReadX at h ⊢
  simp only [e]
  exact h
theorem RelA.fr {w w' : Wd} {pl cm ln n : Nat} {us pg : Nat → Nat} {C : Nat → Cd} (h : RelA w pl cm ln n us pg C) (f : Fr Sc w w') : RelA w' pl cm ln n us pg C := by
  obtain ⟨h1, h2, h3, h4, h5⟩ := h
  have f0 : ∀ o j, rd w' 0 o j = rd w 0 o j := fun o j => f.1 0 o j (sc0 o j)
  have fF : ∀ j, j < 12 → rd w' 12 0 j = rd w 12 0 j := fun j h => f.1 12 0 j (scF h)
  have fM : ∀ o j, 1 ≤ o → o < 7 → rd w' 12 o j = rd w 12 o j := fun o j h1 h2 => f.1 12 o j (scM h1 h2)
  refine ⟨?_, ?_, ?_, ?_, ?_⟩
  · unfold PageR at h1 ⊢
    simp only [f0, fF 10 (by decide), fM 6 _ (by decide) (by decide)]
    exact h1
  · unfold UnitR at h2 ⊢
    simp only [f0, fF 8 (by decide), fF 7 (by decide), fM 5 _ (by decide) (by decide)]
    exact h2
  · unfold EverR at h3 ⊢
    simp only [f0, fF 5 (by decide), fF 6 (by decide)]
    exact h3
  · obtain ⟨a1, a2, a3, a4⟩ := h4
    refine ⟨a1, by rw [f0]; exact a2, by rw [fF 0 (by decide)]; exact a3, fun c hc => ?_⟩
    obtain ⟨b1, b2, b3⟩ := a4 c hc
    exact ⟨b1, b2.fr (fun o j ho => f.1 _ o j (scC (by omega) ho)), b3.fr (fun o j h1 h2 => fM o j h1 (by omega))⟩
  · intro c hc
    exact (h5 c hc).fr (fun o j => f.1 _ o j (scR (by have := h4.1; omega)))

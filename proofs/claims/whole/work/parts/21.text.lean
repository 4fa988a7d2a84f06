/-! Texts: where a page ceases to be the beginning of a code, and fault. -/
def kindc (ch : Nat) : Option Nat := if ch = 99 then some 2 else if ch = 102 then some 0 else if ch = 112 then some 1 else if ch = 116 then some 3 else none
def okMark (kd ch : Nat) : Bool := decide (ch = 97 ∨ ch = 98 ∨ ch = 33 ∨ (kd = 2 ∧ (ch = 43 ∨ (99 ≤ ch ∧ ch ≤ 102))))
def fitB (kd j ch : Nat) : Bool := if j < 1 + dgs kd then decide ((if kd = 1 then 49 else 48) ≤ ch ∧ ch ≤ 55) else if j < 1 + dgs kd + mks kd then okMark kd ch else decide (j < lets kd ∧ 48 ≤ ch ∧ ch ≤ 57)
def ffL (kd : Nat) (pg : Nat → Nat) : Nat → Nat → Nat
  | 0, j => j
  | d + 1, j => if fitB kd j (pg j) = true then ffL kd pg d (j + 1) else j
def flt (pl : Nat) (pg : Nat → Nat) : Nat := if pl = 0 then 0 else match kindc (pg 0) with
  | none => 0
  | some kd => ffL kd pg (pl - 1) 1
theorem kindc_lt {ch kd : Nat} (h : kindc ch = some kd) : kd < 4 ∧ letr kd = ch := by
  unfold kindc at h
  unfold letr
  repeat' split at h
  all_goals first | (cases h; done) | (cases h; subst_vars; exact ⟨by decide, by decide⟩)
theorem x_kindOf {ch : Nat} (h : ch < 127) : X2_kindOf (iI ch) = oE (kindc ch) := by
  unfold X2_kindOf kindc
  by_cases h1 : ch = 99
  · rw [if_pos (yE (by omega)), if_pos h1]; rfl
  · rw [if_neg (nE (by omega) (by omega) (by omega)), if_neg h1]
    by_cases h2 : ch = 102
    · rw [if_pos (yE (by omega)), if_pos h2]; rfl
    · rw [if_neg (nE (by omega) (by omega) (by omega)), if_neg h2]
      by_cases h3 : ch = 112
      · rw [if_pos (yE (by omega)), if_pos h3]; rfl
      · rw [if_neg (nE (by omega) (by omega) (by omega)), if_neg h3]
        by_cases h4 : ch = 116
        · rw [if_pos (yE (by omega)), if_pos h4]; rfl
        · rw [if_neg (nE (by omega) (by omega) (by omega)), if_neg h4]; rfl
theorem m_kindBy {ch : Nat} (h : ch < 127) : X7_kindBy (iI ch) = oE (kindc ch) := x_kindOf h
theorem x_marksBegin {kd : Nat} (h : kd < 4) : X2_marksBegin (iI kd) = iI ((1 + dgs kd : Nat) : Int) := by
  rcases (show kd = 0 ∨ kd = 1 ∨ kd = 2 ∨ kd = 3 by omega) with rfl | rfl | rfl | rfl <;> decide
theorem x_pointsBegin {kd : Nat} (h : kd < 4) : X2_pointsBegin (iI kd) = iI ((1 + dgs kd + mks kd : Nat) : Int) := by
  rcases (show kd = 0 ∨ kd = 1 ∨ kd = 2 ∨ kd = 3 by omega) with rfl | rfl | rfl | rfl <;> decide
theorem x_textLength {kd : Nat} (h : kd < 4) : X2_textLength (iI kd) = iI ((lets kd : Nat) : Int) := by
  rcases (show kd = 0 ∨ kd = 1 ∨ kd = 2 ∨ kd = 3 by omega) with rfl | rfl | rfl | rfl <;> decide
theorem m_digitsOf {kd : Nat} (h : kd < 4) : X7_digitsOf (iI kd) = iI ((dgs kd : Nat) : Int) := by
  rcases (show kd = 0 ∨ kd = 1 ∨ kd = 2 ∨ kd = 3 by omega) with rfl | rfl | rfl | rfl <;> decide
theorem m_marksOf {kd : Nat} (h : kd < 4) : X7_marksOf (iI kd) = iI ((mks kd : Nat) : Int) := by
  rcases (show kd = 0 ∨ kd = 1 ∨ kd = 2 ∨ kd = 3 by omega) with rfl | rfl | rfl | rfl <;> decide
theorem m_lettersOf {kd : Nat} (h : kd < 4) : X7_lettersOf (iI kd) = iI ((lets kd : Nat) : Int) := by
  rcases (show kd = 0 ∨ kd = 1 ∨ kd = 2 ∨ kd = 3 by omega) with rfl | rfl | rfl | rfl <;> decide
theorem lets_le (kd : Nat) : lets kd ≤ 22 ∧ 13 ≤ lets kd ∧ dgs kd ≤ 1 ∧ mks kd ≤ 16 ∧ 8 ≤ mks kd := by
  unfold lets dgs mks
  repeat' split
  all_goals omega
def bE (b : Bool) : Int32 := if b = true then iI 1 else iI 0
theorem bE0 (b : Bool) : bE b = 0 ↔ ¬ b = true := by cases b <;> decide
theorem x_isMark {kd ch : Nat} (hk : kd < 4) (h : ch < 127) : X2_isMark (iI kd) (iI ch) = bE (okMark kd ch) := by
  unfold X2_isMark okMark
  by_cases h1 : ch = 97
  · rw [if_pos (yE (by omega)), decide_eq_true (Or.inl h1)]; rfl
  · rw [if_neg (nE (by omega) (by omega) (by omega))]
    by_cases h2 : ch = 98
    · rw [if_pos (yE (by omega)), decide_eq_true (by omega)]; rfl
    · rw [if_neg (nE (by omega) (by omega) (by omega))]
      by_cases h3 : ch = 33
      · rw [if_pos (yE (by omega)), decide_eq_true (by omega)]; rfl
      · rw [if_neg (nE (by omega) (by omega) (by omega))]
        by_cases h4 : kd = 2
        · rw [if_pos (yE (by omega))]
          by_cases h5 : ch = 43
          · rw [if_pos (yE (by omega)), decide_eq_true (by omega)]; rfl
          · rw [if_neg (nE (by omega) (by omega) (by omega))]
            by_cases h6 : ch < 99
            · rw [if_pos (yT (by omega) (by omega) (by omega)), decide_eq_false (by omega)]; rfl
            · rw [if_neg (nT (by omega) (by omega) (by omega))]
              by_cases h7 : 102 < ch
              · rw [if_pos (yT (by omega) (by omega) (by omega)), decide_eq_false (by omega)]; rfl
              · rw [if_neg (nT (by omega) (by omega) (by omega)), decide_eq_true (by omega)]; rfl
        · rw [if_neg (nE (by omega) (by omega) (by omega)), decide_eq_false (by omega)]; rfl
theorem x_rng {a b ch : Nat} (h : ch < 127) (ha : a < 1000) (hb : b < 1000) : (if iI (ch : Int) < iI (a : Int) then iI 0 else if iI (b : Int) < iI (ch : Int) then iI 0 else iI 1) = bE (decide (a ≤ ch ∧ ch ≤ b)) := by
  by_cases h1 : ch < a
  · rw [if_pos (yT (by omega) (by omega) (by omega)), decide_eq_false (by omega)]; rfl
  · rw [if_neg (nT (by omega) (by omega) (by omega))]
    by_cases h2 : b < ch
    · rw [if_pos (yT (by omega) (by omega) (by omega)), decide_eq_false (by omega)]; rfl
    · rw [if_neg (nT (by omega) (by omega) (by omega)), decide_eq_true (by omega)]; rfl
theorem x_fits {kd j ch : Nat} (hk : kd < 4) (hj : j < 1000) (h : ch < 127) : X2_fits (iI kd) (iI j) (iI ch) = bE (fitB kd j ch) := by
  have hl := lets_le kd
  unfold X2_fits fitB
  rw [x_marksBegin hk, x_pointsBegin hk, x_textLength hk, x_isMark hk h]
  by_cases h1 : j < 1 + dgs kd
  · rw [if_neg (nL (by omega) (by omega) (by omega)), if_pos h1]
    by_cases k1 : kd = 1
    · rw [if_pos (yE (by omega)), if_pos k1]
      exact x_rng (a := 49) (b := 55) h (by decide) (by decide)
    · rw [if_neg (nE (by omega) (by omega) (by omega)), if_neg k1]
      exact x_rng (a := 48) (b := 55) h (by decide) (by decide)
  · rw [if_pos (yL (by omega) (by omega) (by omega)), if_neg h1]
    by_cases h2 : j < 1 + dgs kd + mks kd
    · rw [if_neg (nL (by omega) (by omega) (by omega)), if_pos h2]
    · rw [if_pos (yL (by omega) (by omega) (by omega)), if_neg h2]
      by_cases h3 : j < lets kd
      · rw [if_neg (nL (by omega) (by omega) (by omega))]
        refine (x_rng (a := 48) (b := 57) h (by decide) (by decide)).trans ?_
        congr 1
        simp [h3]
      · rw [if_pos (yL (by omega) (by omega) (by omega)), decide_eq_false (by omega)]; rfl
theorem m_within {a b ch : Nat} (h : ch < 127) (ha : a < 1000) (hb : b < 1000) : X7_within (iI ch) (iI a) (iI b) = bE (decide (a ≤ ch ∧ ch ≤ b)) := x_rng h ha hb
def markN (ch : Nat) : Nat := if ch = 33 then 2 else if ch = 43 then 7 else if ch = 97 then 0 else if ch = 98 then 1 else ch - 96
theorem m_markBy_all : ∀ kd, kd < 4 → ∀ ch, ch < 127 → X7_markBy (iI (kd : Nat)) (iI (ch : Nat)) = if okMark kd ch = true then iI (markN ch : Nat) else iI (-1) := by decide +kernel
theorem m_markBy {kd ch : Nat} (hk : kd < 4) (h : ch < 127) : X7_markBy (iI kd) (iI ch) = if okMark kd ch = true then iI (markN ch : Nat) else iI (-1) := m_markBy_all kd hk ch h
theorem m_fitsAt {w : Wd} {kd j ch : Nat} (hk : kd < 4) (hw : rd w 12 0 12 = iI (kd : Nat)) (hj : j < 1000) (h0 : 0 < j) (h : ch < 127) : X7_fitsAt w (iI j) (iI ch) = some (bE (fitB kd j ch), w) := by
  have hl := lets_le kd
  have hle : lets kd = 1 + dgs kd + mks kd + 4 := rfl
  unfold X7_fitsAt fitB
  rw [if_neg (nE0 (by omega) (by omega)), hw, m_digitsOf hk, m_marksOf hk, m_markBy hk h, iI_sub, iI_sub, bnd_e, iI_add]
  rw [show X7_within (iI (ch : Int)) (iI 48) (iI 57) = bE (decide (48 ≤ ch ∧ ch ≤ 57)) from m_within (a := 48) (b := 57) h (by decide) (by decide), show X7_within (iI (ch : Int)) (iI 49) (iI 55) = bE (decide (49 ≤ ch ∧ ch ≤ 55)) from m_within (a := 49) (b := 55) h (by decide) (by decide), show X7_within (iI (ch : Int)) (iI 48) (iI 55) = bE (decide (48 ≤ ch ∧ ch ≤ 55)) from m_within (a := 48) (b := 55) h (by decide) (by decide)]
  by_cases h1 : j < 1 + dgs kd
  · rw [if_neg (n0L (by omega) (by omega)), if_pos h1]
    by_cases k1 : kd = 1
    · rw [if_pos (yE (by omega)), if_pos k1]
    · rw [if_neg (nE (by omega) (by omega) (by omega)), if_neg k1]
  · rw [if_pos (y0L (by omega) (by omega)), if_neg h1]
    by_cases h2 : j < 1 + dgs kd + mks kd
    · rw [if_neg (nL (by omega) (by omega) (by omega)), if_pos h2]
      by_cases hm : okMark kd ch = true
      · rw [if_pos hm, hm]
        have : markN ch < 100 := by unfold markN; repeat' split
                                    all_goals omega
        rw [if_neg (nE (by omega) (by omega) (by omega))]; rfl
      · rw [if_neg hm, if_pos rfl, show okMark kd ch = false by simpa using hm]; rfl
    · rw [if_pos (yL (by omega) (by omega) (by omega)), if_neg h2]
      by_cases h3 : j < lets kd
      · rw [if_neg (nL (by omega) (by omega) (by omega))]
        simp only [bE0]
        by_cases h4 : 48 ≤ ch ∧ ch ≤ 57
        · rw [if_neg (by simp [h4]), decide_eq_true (by omega)]; rfl
        · rw [if_pos (by simpa using h4), decide_eq_false (by omega)]; rfl
      · rw [if_pos (yL (by omega) (by omega) (by omega)), decide_eq_false (by omega)]; rfl
theorem x_faultL {w : Wd} {pl kd : Nat} {pg : Nat → Nat} (h40 : pl ≤ 40) (hk : kd < 4) (hg : ∀ j, j < pl → pg j < 127 ∧ rd w 0 1 j = iI (pg j : Nat)) : ∀ d j fuel, j + d = pl → d < fuel → X2_firstFault_L28 fuel (iI pl) (iI kd) (iI j) w = some (iI (ffL kd pg d j : Nat)) := by
  intro d
  induction d with
  | zero =>
    intro j fuel hd hf
    obtain ⟨f, rfl⟩ : ∃ f, fuel = f + 1 := ⟨fuel - 1, by omega⟩
    obtain rfl : j = pl := by omega
    rw [X2_firstFault_L28, if_pos (yL (by omega) (by omega) (by omega))]
    rfl
  | succ d ih =>
    intro j fuel hd hf
    obtain ⟨f, rfl⟩ : ∃ f, fuel = f + 1 := ⟨fuel - 1, by omega⟩
    have := hg j (by omega)
    rw [X2_firstFault_L28, if_neg (nL (by omega) (by omega) (by omega)), ga_n (by omega) (by decide), this.2, x_fits hk (by omega) this.1, bnd_e, iI_add]
    simp only [bE0]
    unfold ffL
    by_cases hf2 : fitB kd j (pg j) = true
    · rw [if_neg (by simp [hf2]), if_pos hf2]
      exact ih (j + 1) f (by omega) (by omega)
    · rw [if_pos hf2, if_neg hf2]
theorem m_faultL {w : Wd} {pl kd : Nat} {pg : Nat → Nat} (h40 : pl ≤ 40) (hk : kd < 4) (hp : rd w 12 0 10 = iI (pl : Nat)) (hw : rd w 12 0 12 = iI (kd : Nat)) (hg : ∀ j, j < pl → pg j < 127 ∧ rd w 12 6 j = iI (pg j : Nat)) : ∀ d j fuel, j + d = pl → 0 < j → d < fuel → X7_read_L2 fuel (iI j) w = some (iI (ffL kd pg d j : Nat), w) := by
  intro d
  induction d with
  | zero =>
    intro j fuel hd h0 hf
    obtain ⟨f, rfl⟩ : ∃ f, fuel = f + 1 := ⟨fuel - 1, by omega⟩
    obtain rfl : j = pl := by omega
    rw [X7_read_L2, hp, if_pos (yL (by omega) (by omega) (by omega))]
    rfl
  | succ d ih =>
    intro j fuel hd h0 hf
    obtain ⟨f, rfl⟩ : ∃ f, fuel = f + 1 := ⟨fuel - 1, by omega⟩
    have := hg j (by omega)
    rw [X7_read_L2, hp, if_neg (nL (by omega) (by omega) (by omega)), ga_n (by omega) (by decide), this.2, m_fitsAt hk hw (by omega) h0 this.1, bI_s, bnd_e, iI_add]
    simp only [bE0]
    unfold ffL
    by_cases hf2 : fitB kd j (pg j) = true
    · rw [if_neg (by simp [hf2]), if_pos hf2]
      exact ih (j + 1) f (by omega) (by omega) (by omega)
    · rw [if_pos hf2, if_neg hf2]
theorem x_fault {w : Wd} {pl : Nat} {pg : Nat → Nat} (h40 : pl ≤ 40) (hg : ∀ j, j < pl → pg j < 127 ∧ rd w 0 1 j = iI (pg j : Nat)) : X2_firstFault w (iI pl) = some (iI (flt pl pg : Nat)) := by
  unfold X2_firstFault flt
  by_cases h0 : pl = 0
  · rw [if_pos (yL0 (by omega) (by omega)), if_pos h0]; rfl
  · have := hg 0 (by omega)
    rw [if_neg (nL0 (by omega) (by omega)), if_pos (yL (by omega) (by omega) (by omega)), if_neg h0, ga_e (k := 0) (by omega) (by omega) (by decide), this.2, bnd_e, x_kindOf this.1]
    cases e : kindc (pg 0) with
    | none => rw [show oE none = iI (-1) from rfl, if_pos rfl]; rfl
    | some kd =>
      have hk := (kindc_lt e).1
      rw [show oE (some kd) = iI (kd : Nat) from rfl, if_neg (nE (by omega) (by omega) (by omega))]
      exact x_faultL h40 hk hg (pl - 1) 1 1000 (by omega) (by omega)
def SNew (g o j : Nat) : Prop := g = 12 ∧ o = 0 ∧ j = 12
theorem m_read {w : Wd} {pl : Nat} {pg : Nat → Nat} (h40 : pl ≤ 40) (hp : rd w 12 0 10 = iI (pl : Nat)) (hg : ∀ j, j < pl → pg j < 127 ∧ rd w 12 6 j = iI (pg j : Nat)) : ∃ w', X7_read w = some (iI (flt pl pg : Nat), w') ∧ Fr SNew w w' ∧ (0 < pl → rd w' 12 0 12 = oE (kindc (pg 0))) := by
  unfold X7_read flt
  rw [X7_read_L2, hp]
  by_cases h0 : pl = 0
  · rw [if_pos (yL (by omega) (by omega) (by omega)), if_pos h0]
    exact ⟨w, rfl, Fr.rf _ w, fun h => by omega⟩
  · have := hg 0 (by omega)
    rw [if_neg (nL (by omega) (by omega) (by omega)), if_neg h0, ga_e (k := 0) (by omega) (by omega) (by decide), this.2]
    unfold X7_fitsAt
    rw [if_pos (yE0 rfl), bnd_e, m_kindBy this.1, rd_eq]
    have f1 : Fr SNew w (wr w 12 0 12 (oE (kindc (pg 0)))) := (Fr.rf _ w).wr _ ⟨rfl, rfl, rfl⟩
    cases e : kindc (pg 0) with
    | none =>
      rw [e] at f1
      rw [show oE none = iI (-1) from rfl, if_pos rfl, bI_s, if_pos (yE0 rfl)]
      exact ⟨_, rfl, f1, fun _ => rd_eq⟩
    | some kd =>
      rw [e] at f1
      have hk := (kindc_lt e).1
      rw [show oE (some kd) = iI (kd : Nat) from rfl] at f1 ⊢
      rw [if_neg (nE (by omega) (by omega) (by omega)), bI_s, if_neg n10, bnd_e, iI_add]
      refine ⟨_, m_faultL h40 hk (by rw [rd_j (by decide)]; exact hp) rd_eq (fun j hj => ⟨(hg j hj).1, by rw [rd_o (by decide)]; exact (hg j hj).2⟩) (pl - 1) 1 999 (by omega) (by omega) (by omega), f1, fun _ => rd_eq⟩
theorem SNew_sc {g o j : Nat} (h : SNew g o j) : Sc g o j := by unfold SNew at h; unfold Sc ScM; omega
theorem op_fault {w : Wd} (h : Rel w) : ∃ r w2, X6_fault w = some r ∧ X7_fault w = some (r, w2) ∧ Rel w2 := by
  obtain ⟨pl, cm, ln, n, us, pg, C, hR⟩ := h
  obtain ⟨p1, p2, p3, p4⟩ := hR.1
  obtain ⟨w2, e1, e2, -⟩ := m_read (w := w) (pg := pg) p1 p3 (fun j hj => ⟨(p4 j hj).2.1, (p4 j hj).2.2.2⟩)
  refine ⟨iI (flt pl pg : Nat), w2, ?_, ?_, pl, cm, ln, n, us, pg, C, hR.fr (e2.mono (fun _ _ _ => SNew_sc))⟩
  · unfold X6_fault
    rw [p2, x_fault p1 (fun j hj => ⟨(p4 j hj).2.1, (p4 j hj).2.2.1⟩), ob_s]
  · unfold X7_fault
    rw [e1, bI_s]

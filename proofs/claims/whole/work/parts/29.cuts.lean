/-! The best division. -/
abbrev En : Type := Option (Int × Nat × Nat × Nat × Nat)
def bet (wo : Int) (pc en cd : Nat) (cur : En) : Bool := match cur with
  | none => true
  | some t => decide (t.1 < wo ∨ (wo = t.1 ∧ (pc < t.2.1 ∨ (pc = t.2.1 ∧ (en < t.2.2.1 ∨ (en = t.2.2.1 ∧ cd < t.2.2.2.1))))))
/-- a piece is tried: from .. to en, by code cd, of weight wt -/
def tp (T : Nat → En) (size en cd wt : Nat) (cur : En) : En := match T en with
  | none => cur
  | some t => if bet ((wt : Int) + t.1 - (if en < size then 7 else 0)) (t.2.1 + 1) en cd cur = true then some ((wt : Int) + t.1 - (if en < size then 7 else 0), t.2.1 + 1, en, cd, wt) else cur
def cuL (C : Cd) (us : Nat → Nat) (T : Nat → En) (size b c : Nat) : Nat → En → En
  | 0, cur => cur
  | k + 1, cur => if rVal (rnF C us b (k + 1)) = true then tp T size (b + (k + 1)) c (rnF C us b (k + 1)).2.2.2.2.1 (cuL C us T size b c k cur) else cuL C us T size b c k cur
def ccL (C : Nat → Cd) (us : Nat → Nat) (T : Nat → En) (size b : Nat) : Nat → En
  | 0 => none
  | c + 1 => cuL (C c) us T size b c (size - b) (ccL C us T size b c)
def tb (C : Nat → Cd) (us : Nat → Nat) (n size : Nat) : Nat → (Nat → En)
  | 0 => fun b => if b = size then some (0, 0, 0, 0, 0) else none
  | d + 1 => fun b => if b + (d + 1) = size then ccL C us (tb C us n size d) size b n else tb C us n size d b
/-- an entry at place b is within its bounds -/
def EnOK (size b : Nat) (e : En) : Prop := ∀ wo pc en cd wt, e = some (wo, pc, en, cd, wt) → -7 * ((size : Int) - b) ≤ wo ∧ wo ≤ 9 * ((size : Int) - b) ∧ pc + b ≤ size ∧ (b < size → 1 ≤ pc ∧ b < en ∧ en ≤ size) ∧ cd < 4 ∧ wt ≤ 9 * size
theorem tp_ok {T : Nat → En} {size b en cd wt : Nat} {cur : En} (hT : EnOK size en (T en)) (hb : b < en) (he : en ≤ size) (hc : cd < 4) (hw : wt ≤ 9 * (en - b)) (h : EnOK size b cur) : EnOK size b (tp T size en cd wt cur) := by
  unfold tp
  cases e : T en with
  | none => exact h
  | some t =>
    obtain ⟨w1, p1, e1, c1, t1⟩ := t
    dsimp only
    have hb1 := hT w1 p1 e1 c1 t1 e
    have hr : -7 * ((size : Int) - b) ≤ (wt : Int) + w1 - (if en < size then 7 else 0) ∧ (wt : Int) + w1 - (if en < size then 7 else 0) ≤ 9 * ((size : Int) - b) := by split <;> omega
    generalize (wt : Int) + w1 - (if en < size then 7 else 0) = wo' at hr
    split
    · intro wo pc en' cd' wt' heq
      cases heq
      exact ⟨hr.1, hr.2, by omega, fun _ => ⟨by omega, hb, he⟩, hc, by omega⟩
    · exact h
theorem cuL_ok {C : Cd} (hk : cok C) {us : Nat → Nat} {T : Nat → En} {size b c : Nat} (hc : c < 4) (hu : ∀ j, j < size → us j < 8) (hT : ∀ e, b < e → e ≤ size → EnOK size e (T e)) : ∀ k cur, b + k ≤ size → EnOK size b cur → EnOK size b (cuL C us T size b c k cur) := by
  intro k
  induction k with
  | zero => intro cur _ h; exact h
  | succ k ih =>
    intro cur hk2 h
    unfold cuL
    split
    · have bd := rnF_bd hk (us := us) (f := b) (k + 1) (fun j hj => hu _ (by omega))
      exact tp_ok (hT _ (by omega) (by omega)) (by omega) (by omega) hc (by omega) (ih cur (by omega) h)
    · exact ih cur (by omega) h
theorem ccL_ok {C : Nat → Cd} {us : Nat → Nat} {T : Nat → En} {size b n : Nat} (hn : n ≤ 4) (hk : ∀ c, c < n → cok (C c)) (hb : b ≤ size) (hu : ∀ j, j < size → us j < 8) (hT : ∀ e, b < e → e ≤ size → EnOK size e (T e)) : ∀ c, c ≤ n → EnOK size b (ccL C us T size b c) := by
  intro c
  induction c with
  | zero => intro _ wo pc en cd wt h; cases h
  | succ c ih => intro hc; exact cuL_ok (hk c (by omega)) (by omega) hu hT _ _ (by omega) (ih (by omega))
theorem tb_ok {C : Nat → Cd} {us : Nat → Nat} {n size : Nat} (hn : n ≤ 4) (hk : ∀ c, c < n → cok (C c)) (hu : ∀ j, j < size → us j < 8) : ∀ d, d ≤ size → ∀ b, b ≤ size → EnOK size b (tb C us n size d b) := by
  intro d
  induction d with
  | zero =>
    intro _ b hb
    unfold tb
    by_cases e : b = size
    · subst e
      rw [if_pos rfl]
      intro wo pc en cd wt h
      cases h
      exact ⟨by omega, by omega, by omega, fun h => by omega, by omega, by omega⟩
    · rw [if_neg e]; intro wo pc en cd wt h; cases h
  | succ d ih =>
    intro hd b hb
    unfold tb
    by_cases e : b + (d + 1) = size
    · rw [if_pos e]
      exact ccL_ok hn hk hb hu (fun e' _ h2 => ih (by omega) e' h2) n (Nat.le_refl _)
    · rw [if_neg e]; exact ih (by omega) b hb
def EX2 (w : Wd) (b : Nat) (e : En) : Prop := match e with
  | none => rd w 11 2 b = iI (-1)
  | some t => rd w 11 1 b = iI t.1 ∧ rd w 11 2 b = iI (t.2.1 : Nat)
def EX (w : Wd) (b : Nat) (e : En) : Prop := match e with
  | none => rd w 11 2 b = iI (-1)
  | some t => rd w 11 1 b = iI t.1 ∧ rd w 11 2 b = iI (t.2.1 : Nat) ∧ rd w 11 3 b = iI (t.2.2.1 : Nat) ∧ rd w 11 4 b = iI (t.2.2.2.1 : Nat) ∧ rd w 11 5 b = iI (t.2.2.2.2 : Nat)
theorem EX.to2 {w : Wd} {b : Nat} {e : En} (h : EX w b e) : EX2 w b e := by
  cases e with
  | none => exact h
  | some t => exact ⟨h.1, h.2.1⟩
theorem EX.fr {w w' : Wd} {b : Nat} {e : En} (h : EX w b e) (f : ∀ o, rd w' 11 o b = rd w 11 o b) : EX w' b e := by
  cases e with
  | none => show rd w' 11 2 b = _; rw [f]; exact h
  | some t => exact ⟨by rw [f]; exact h.1, by rw [f]; exact h.2.1, by rw [f]; exact h.2.2.1, by rw [f]; exact h.2.2.2.1, by rw [f]; exact h.2.2.2.2⟩
theorem EX2.fr {w w' : Wd} {b : Nat} {e : En} (h : EX2 w b e) (f : ∀ o, rd w' 11 o b = rd w 11 o b) : EX2 w' b e := by
  cases e with
  | none => show rd w' 11 2 b = _; rw [f]; exact h
  | some t => exact ⟨by rw [f]; exact h.1, by rw [f]; exact h.2⟩
theorem x_isBetter {w : Wd} {b size : Nat} {cur : En} (hs : size ≤ 40) (hb : b ≤ size) (h : EX w b cur) (hok : EnOK size b cur) {wo : Int} (hwo : -1000 ≤ wo ∧ wo ≤ 1000) {pc en cd : Nat} (hpc : pc < 1000) (hen : en < 1000) (hcd : cd < 1000) (hb2 : b < size) : X1_isBetter w (iI (b : Nat)) (iI wo) (iI (pc : Nat)) (iI (en : Nat)) (iI (cd : Nat)) = some (bE (bet wo pc en cd cur)) := by
  have h41 : b < 41 := by omega
  unfold X1_isBetter
  simp only [ga_n h41 (show (41 : Nat) < 2147483648 by decide)]
  cases cur with
  | none =>
    have : rd w 11 2 b = iI (-1) := h
    rw [this, if_pos rfl]; rfl
  | some t =>
    obtain ⟨w1, p1, e1, c1, t1⟩ := t
    obtain ⟨a1, a2, a3, a4, a5⟩ := h
    obtain ⟨o1, o2, o3, o4, o5, o6⟩ := hok _ _ _ _ _ rfl
    have o4 := o4 hb2
    dsimp only at a1 a2 a3 a4 a5
    rw [a1, a2, a3, a4, if_neg (nE (by omega) (by omega) (by omega))]
    have hbet : ∀ x : Bool, (x = true ↔ (w1 < wo ∨ (wo = w1 ∧ (pc < p1 ∨ (pc = p1 ∧ (en < e1 ∨ (en = e1 ∧ cd < c1))))))) → bet wo pc en cd (some (w1, p1, e1, c1, t1)) = x := by
      intro x hx
      unfold bet
      dsimp only
      cases x with
      | true => exact decide_eq_true (hx.mp rfl)
      | false => exact decide_eq_false (fun q => by have := hx.mpr q; cases this)
    by_cases q1 : wo = w1
    · rw [if_pos (yE q1)]
      by_cases q2 : pc = p1
      · rw [if_pos (yE (by omega))]
        by_cases q3 : en = e1
        · rw [if_pos (yE (by omega))]
          by_cases q4 : c1 ≤ cd
          · rw [if_pos (yL (by omega) (by omega) (by omega)), hbet false (by simp; omega)]; rfl
          · rw [if_neg (nL (by omega) (by omega) (by omega)), hbet true (by simp; omega)]; rfl
        · rw [if_neg (nE (by omega) (by omega) (by omega))]
          by_cases q4 : e1 ≤ en
          · rw [if_pos (yL (by omega) (by omega) (by omega)), hbet false (by simp; omega)]; rfl
          · rw [if_neg (nL (by omega) (by omega) (by omega)), hbet true (by simp; omega)]; rfl
      · rw [if_neg (nE (by omega) (by omega) (by omega))]
        by_cases q4 : p1 ≤ pc
        · rw [if_pos (yL (by omega) (by omega) (by omega)), hbet false (by simp; omega)]; rfl
        · rw [if_neg (nL (by omega) (by omega) (by omega)), hbet true (by simp; omega)]; rfl
    · rw [if_neg (nE (by omega) (by omega) (by omega))]
      by_cases q4 : wo ≤ w1
      · rw [if_pos (yL (by omega) (by omega) (by omega)), hbet false (by simp; omega)]; rfl
      · rw [if_neg (nL (by omega) (by omega) (by omega)), hbet true (by simp; omega)]; rfl
def SDx (b : Nat) : Nat → Nat → Nat → Prop := fun g _ j => g = 11 ∧ j = b
theorem x_tryPiece {w : Wd} {T : Nat → En} {b size en cd wt : Nat} {cur : En} (hs : size ≤ 40) (hb : b < en) (he : en ≤ size) (hcd : cd < 4) (hwt : wt ≤ 9 * (en - b)) (hT : EX2 w en (T en)) (hTok : EnOK size en (T en)) (hc : EX w b cur) (hcok : EnOK size b cur) :
    ∃ w', X1_tryPiece w (iI (b : Nat)) (iI (en : Nat)) (iI (cd : Nat)) (iI (wt : Nat)) (iI (size : Nat)) = some w' ∧ Fr (SDx b) w w' ∧ EX w' b (tp T size en cd wt cur) := by
  unfold X1_tryPiece tp
  rw [ga_n (by omega) (by decide)]
  cases e : T en with
  | none =>
    rw [e] at hT
    have : rd w 11 2 en = iI (-1) := hT
    rw [this, if_pos rfl]
    exact ⟨w, rfl, Fr.rf _ w, hc⟩
  | some t =>
    obtain ⟨w1, p1, e1, c1, t1⟩ := t
    rw [e] at hT
    obtain ⟨a1, a2⟩ := hT
    dsimp only at a1 a2
    obtain ⟨o1, o2, o3, -, -, -⟩ := hTok _ _ _ _ _ e
    rw [a2, if_neg (nE (by omega) (by omega) (by omega))]
    dsimp only
    have key : ∀ v : Int, v = (if en < size then w1 - 7 else 0) → ∃ w', X1_tryPiece_L32 (iI (b : Nat)) (iI (en : Nat)) (iI (cd : Nat)) (iI (wt : Nat)) (iI v) (iI (wt : Nat)) w = some w' ∧ Fr (SDx b) w w' ∧ EX w' b (if bet ((wt : Int) + w1 - (if en < size then 7 else 0)) (p1 + 1) en cd cur = true then some ((wt : Int) + w1 - (if en < size then 7 else 0), p1 + 1, en, cd, wt) else cur) := by
      intro v hv
      have hw1 : ¬ en < size → w1 = 0 := fun h => by omega
      have hvw : (wt : Int) + v = (wt : Int) + w1 - (if en < size then 7 else 0) := by
        rw [hv]; by_cases q : en < size
        · rw [if_pos q, if_pos q]; omega
        · rw [if_neg q, if_neg q, hw1 q]; omega
      have hrange : -1000 ≤ (wt : Int) + w1 - (if en < size then 7 else 0) ∧ (wt : Int) + w1 - (if en < size then 7 else 0) ≤ 1000 := by split <;> omega
      unfold X1_tryPiece_L32
      rw [iI_add, bnd_e, ga_n (by omega) (by decide), a2, iI_add, bnd_e, hvw]
      generalize (wt : Int) + w1 - (if en < size then 7 else 0) = wo at hrange
      rw [show ((p1 : Int) + 1) = ((p1 + 1 : Nat) : Int) by omega, x_isBetter hs (by omega) hc hcok hrange (by omega) (by omega) (by omega) (by omega), ob_s]
      simp only [bE0]
      by_cases q : bet wo (p1 + 1) en cd cur = true
      · rw [if_neg (by simp [q]), if_pos q, pa_n (by omega) (by decide), pa_n (by omega) (by decide), pa_n (by omega) (by decide), pa_n (by omega) (by decide), pa_n (by omega) (by decide)]
        refine ⟨_, rfl, (((((Fr.rf _ w).wr _ ⟨rfl, rfl⟩).wr _ ⟨rfl, rfl⟩).wr _ ⟨rfl, rfl⟩).wr _ ⟨rfl, rfl⟩).wr _ ⟨rfl, rfl⟩, ?_, ?_, ?_, ?_, ?_⟩
        · rw [rd_o (by decide), rd_o (by decide), rd_o (by decide), rd_o (by decide), rd_eq]
        · rw [rd_o (by decide), rd_o (by decide), rd_o (by decide), rd_eq]
        · rw [rd_o (by decide), rd_o (by decide), rd_eq]
        · rw [rd_o (by decide), rd_eq]
        · rw [rd_eq]
      · rw [if_pos q, if_neg q]
        exact ⟨w, rfl, Fr.rf _ w, hc⟩
    by_cases q : en < size
    · rw [if_neg (nL (by omega) (by omega) (by omega)), ga_n (by omega) (by decide), a1, iI_sub]
      exact key _ (by rw [if_pos q])
    · rw [if_pos (yL (by omega) (by omega) (by omega))]
      exact key 0 (by rw [if_neg q])

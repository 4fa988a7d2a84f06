/-! A code read by the class's tables and by the reference. -/
theorem ga_e {ρ : Type} {w : Wd} {g o n k : Nat} {a : Int} {K : Int32 → Option ρ} (e : a = k) (h : k < n) (h2 : n < 2147483648) : ga w g o n (iI a) K = K (rd w g o k) := by rw [e]; exact ga_n h h2
theorem pa_e {ρ : Type} {w : Wd} {g o n k : Nat} {a : Int} {v : Int32} {K : Wd → Option ρ} (e : a = k) (h : k < n) (h2 : n < 2147483648) : pa w g o n (iI a) v K = K (wr w g o k v) := by rw [e]; exact pa_n h h2
theorem nL {a b : Int} (h : b < a) (ha : inR a) (hb : inR b) : ¬ iI a ≤ iI b := fun q => by have := (iI_le ha hb).mp q; omega
theorem nT {a b : Int} (h : b ≤ a) (ha : inR a) (hb : inR b) : ¬ iI a < iI b := fun q => by have := (iI_lt ha hb).mp q; omega
theorem nE {a b : Int} (h : a ≠ b) (ha : inR a) (hb : inR b) : ¬ iI a = iI b := fun q => by have := (iI_eq ha hb).mp q; omega
theorem yL {a b : Int} (h : a ≤ b) (ha : inR a) (hb : inR b) : iI a ≤ iI b := (iI_le ha hb).mpr h
theorem yT {a b : Int} (h : a < b) (ha : inR a) (hb : inR b) : iI a < iI b := (iI_lt ha hb).mpr h
theorem yE {a b : Int} (h : a = b) : iI a = iI b := by rw [h]
theorem nT0 {a : Int} (h : 0 ≤ a) (ha : inR a) : ¬ iI a < 0 := fun q => by have := (iI_lt0 ha).mp q; omega
theorem nL0 {a : Int} (h : 0 < a) (ha : inR a) : ¬ iI a ≤ 0 := fun q => by have := (iI_le0 ha).mp q; omega
theorem nE0 {a : Int} (h : a ≠ 0) (ha : inR a) : ¬ iI a = 0 := fun q => h ((iI_eq0 ha).mp q)
theorem yT0 {a : Int} (h : a < 0) (ha : inR a) : iI a < 0 := (iI_lt0 ha).mpr h
theorem yL0 {a : Int} (h : a ≤ 0) (ha : inR a) : iI a ≤ 0 := (iI_le0 ha).mpr h
theorem yE0 {a : Int} (h : a = 0) : iI a = 0 := by rw [h]; rfl
theorem n0T {a : Int} (h : a ≤ 0) (ha : inR a) : ¬ 0 < iI a := fun q => by have := (iI_0lt ha).mp q; omega
theorem y0T {a : Int} (h : 0 < a) (ha : inR a) : 0 < iI a := (iI_0lt ha).mpr h
theorem y0L {a : Int} (h : 0 ≤ a) (ha : inR a) : 0 ≤ iI a := (iI_0le ha).mpr h
theorem n0L {a : Int} (h : a < 0) (ha : inR a) : ¬ 0 ≤ iI a := fun q => by have := (iI_0le ha).mp q; omega
theorem isUnit_in {u : Nat} (h : u < 8) : X6_isUnit (iI u) = iI 1 := by
  unfold X6_isUnit
  rw [if_neg (nT0 (by omega) (by omega)), if_neg (nL (by omega) (by omega) (by omega))]
theorem n10 : ¬ iI 1 = (0 : Int32) := by decide
theorem nlt0 {k : Nat} (h : k < 2147483648) : ¬ iI (k : Int) < 0 := fun q => by have := (iI_lt0 ⟨by omega, by omega⟩).mp q; omega
theorem nge {k n : Nat} (h : k < n) (h2 : n < 2147483648) : ¬ iI (n : Int) ≤ iI (k : Int) := fun q => by have := (iI_le ⟨by omega, by omega⟩ ⟨by omega, by omega⟩).mp q; omega
theorem yle {k n : Nat} (h : n ≤ k) (h2 : k < 2147483648) : iI (n : Int) ≤ iI (k : Int) := (iI_le ⟨by omega, by omega⟩ ⟨by omega, by omega⟩).mpr (by omega)
theorem nm1 {k : Nat} (h : k < 2147483648) : ¬ iI (k : Int) = iI (-1) := fun q => by have := (iI_eq ⟨by omega, by omega⟩ (by decide)).mp q; omega
theorem neqN {a b : Nat} (h : a ≠ b) (ha : a < 2147483648) (hb : b < 2147483648) : ¬ iI (a : Int) = iI (b : Int) := fun q => by have := (iI_eq ⟨by omega, by omega⟩ ⟨by omega, by omega⟩).mp q; omega
theorem eqN {a b : Nat} (ha : a < 2147483648) (hb : b < 2147483648) : iI (a : Int) = iI (b : Int) ↔ a = b := by rw [iI_eq ⟨by omega, by omega⟩ ⟨by omega, by omega⟩]; omega
theorem eqN0 {a : Nat} (ha : a < 2147483648) : iI (a : Int) = 0 ↔ a = 0 := by rw [iI_eq0 ⟨by omega, by omega⟩]; omega
theorem ltN {a b : Nat} (ha : a < 2147483648) (hb : b < 2147483648) : iI (a : Int) < iI (b : Int) ↔ a < b := by rw [iI_lt ⟨by omega, by omega⟩ ⟨by omega, by omega⟩]; omega
theorem leN {a b : Nat} (ha : a < 2147483648) (hb : b < 2147483648) : iI (a : Int) ≤ iI (b : Int) ↔ a ≤ b := by rw [iI_le ⟨by omega, by omega⟩ ⟨by omega, by omega⟩]; omega
section XCODE
variable {w : Wd} {g : Nat} {C : Cd}
theorem x_nextState (h : CodeX w g C) {p u : Nat} (hp : p < 15) (hu : u < 8) : X0_nextState w g (iI p) (iI u) = some (oE (nx C p u)) := by
  unfold X0_nextState
  rw [if_neg (nT0 (by omega) (by omega)), if_neg (nL (by omega) (by omega) (by omega)), if_neg (nT0 (by omega) (by omega)), if_pos (yT (by omega) (by omega) (by omega)), iI_mul, iI_add, ga_e (k := p * 8 + u) (by omega) (by omega) (by decide), h.2.2.2.2.2.1 p u hp hu]
theorem x_gain (h : CodeX w g C) {p u : Nat} (hp : p < 15) (hu : u < 8) : X0_gain w g (iI p) (iI u) = some (iI (gn C p u : Nat)) := by
  unfold X0_gain
  rw [if_neg (nT0 (by omega) (by omega)), if_neg (nL (by omega) (by omega) (by omega)), if_neg (nT0 (by omega) (by omega)), if_pos (yT (by omega) (by omega) (by omega)), iI_mul, iI_add, ga_e (k := p * 8 + u) (by omega) (by omega) (by decide), h.2.2.2.2.2.2 p u hp hu]
theorem ms_le (C : Cd) : ms C ≤ 5 := by unfold ms; repeat' split
                                        all_goals omega
theorem ms_pos (C : Cd) : 0 < ms C := by unfold ms; repeat' split
                                         all_goals omega
theorem trc_5 {m : Nat} (h : 5 ≤ m) (u : Nat) : trc C m u = none := by
  unfold trc; rw [if_neg (by have := ms_le C; omega)]
theorem x_moveIn (h : CodeX w g C) {m u : Nat} (hm : m < 1000) (hu : u < 8) : X0_moveIn w g (iI m) (iI u) = some (mvE (trc C m u)) := by
  unfold X0_moveIn
  rw [if_neg (nT0 (by omega) (by omega))]
  by_cases h5 : m < 5
  · rw [if_neg (nL (by omega) (by omega) (by omega)), if_neg (nT0 (by omega) (by omega)), if_pos (yT (by omega) (by omega) (by omega)), iI_mul, iI_add, ga_e (k := m * 8 + u) (by omega) (by omega) (by decide), h.2.2.2.2.1 m u h5 hu]
  · rw [if_pos (yL (by omega) (by omega) (by omega)), trc_5 (by omega)]; rfl
theorem trc_ok (hc : cok C) {m u m' s : Nat} (hu : u < 8) (e : trc C m u = some (m', s)) : m < ms C ∧ m' < ms C ∧ s < 3 := by
  unfold trc at e
  by_cases hm : m < ms C
  · rw [if_pos hm] at e; exact ⟨hm, tr_ok hc hm hu e⟩
  · rw [if_neg hm] at e; cases e
theorem x_nextMode (h : CodeX w g C) (hc : cok C) {m u : Nat} (hm : m < 1000) (hu : u < 8) : X0_nextMode w g (iI m) (iI u) = some (oE ((trc C m u).map (fun q => q.1))) := by
  unfold X0_nextMode
  rw [x_moveIn h hm hu, ob_s]
  cases e : trc C m u with
  | none => rfl
  | some q =>
    obtain ⟨m', s⟩ := q
    obtain ⟨-, h1, h2⟩ := trc_ok hc hu e
    have := ms_le C
    show (if iI ((3 * m' + s : Nat) : Int) = iI (-1) then _ else _) = _
    rw [if_neg (nE (by omega) (by omega) (by omega))]
    show some (iI ((3 * m' + s : Nat) : Int) / iI 3) = _
    rw [iI_div (by omega) ⟨by omega, by omega⟩ (by decide) (by decide)]
    show some (iI _) = some (iI ((m' : Nat) : Int))
    congr 2; omega
theorem x_sortEnded (h : CodeX w g C) (hc : cok C) {m u : Nat} (hm : m < 1000) (hu : u < 8) : X0_sortEnded w g (iI m) (iI u) = some (iI ((match trc C m u with | none => 0 | some q => q.2 : Nat) : Int)) := by
  unfold X0_sortEnded
  rw [x_moveIn h hm hu, ob_s]
  cases e : trc C m u with
  | none => rfl
  | some q =>
    obtain ⟨m', s⟩ := q
    obtain ⟨-, h1, h2⟩ := trc_ok hc hu e
    have := ms_le C
    show (if iI ((3 * m' + s : Nat) : Int) = iI (-1) then _ else _) = _
    rw [if_neg (nE (by omega) (by omega) (by omega))]
    show some (irm (iI ((3 * m' + s : Nat) : Int)) (iI 3)) = some (iI ((s : Nat) : Int))
    rw [iI_irm (by omega) ⟨by omega, by omega⟩ (by decide) (by decide)]
    congr 2; omega
theorem nx_lt (hc : cok C) {p u p' : Nat} (hu : u < 8) (e : nx C p u = some p') : p' < 3 * ms C ∧ p < 3 * ms C := by
  unfold nx at e
  cases e2 : trc C (p / 3) u with
  | none => rw [e2] at e; cases e
  | some q =>
    obtain ⟨m', s⟩ := q
    obtain ⟨h0, h1, h2⟩ := trc_ok hc hu e2
    rw [e2] at e
    dsimp only at e
    split at e <;> (cases e; omega)
theorem gn_le (hc : cok C) {p u : Nat} (hu : u < 8) : gn C p u < 10 := by
  unfold gn
  cases e2 : trc C (p / 3) u with
  | none => show 0 < 10; decide
  | some q =>
    obtain ⟨m', s⟩ := q
    obtain ⟨h0, h1, h2⟩ := trc_ok hc hu e2
    dsimp only
    split
    · decide
    · split
      · decide
      · exact hc.2.2.2 _ (by omega)
end XCODE
def sE (q : Option (Nat × Nat)) : Int32 := match q with
  | none => iI (-1)
  | some q => iI ((q.2 : Int) - 1)
theorem wr_wr (w : Wd) (g o j : Nat) (a b : Int32) : wr (wr w g o j a) g o j b = wr w g o j b := by
  unfold wr
  congr 1
  funext x y z
  dsimp only
  split <;> rfl
section MCODE
variable {w : Wd} {c : Nat} {C : Cd}
theorem m_ends (w : Wd) {mk st : Nat} (h : mk < 3) : X7_ends w (iI mk) (iI st) = some (oE ((sEnds mk st).map (fun q => q.1)), wr w 12 0 13 (sE (sEnds mk st))) := by
  unfold X7_ends sEnds
  by_cases e : mk = 2
  · subst e; rfl
  · have ne : ¬ iI (mk : Int) = iI 2 := nE (by omega) (by omega) (by omega)
    rw [if_neg ne, bnd_e, if_neg ne, if_neg e]
    show some (iI (st : Int), wr w 12 0 13 (iI (mk : Int))) = some (iI (st : Int), wr w 12 0 13 (iI (((mk + 1 : Nat) : Int) - 1)))
    congr 4; omega
theorem m_step (h : CodeM w c C) (hk : cok C) (hc : c < 4) {m u : Nat} (hm : m < ms C) (hu : u < 8) : X7_step w (iI c) (iI m) (iI u) = some (oE ((tr C m u).map (fun q => q.1)), wr w 12 0 13 (sE (tr C m u))) := by
  obtain ⟨h1, h2, h3, h4⟩ := h
  obtain ⟨k1, k2, k3, k4⟩ := hk
  have hu16 := k3 u (by omega)
  have r1 : ∀ o j, 0 < o → rd (wr w 12 0 13 (iI (-1))) 12 o j = rd w 12 o j := fun o j ho => rd_ne (by omega)
  unfold X7_step
  rw [bnd_e, iI_mul, iI_add, ga_e (k := 16 * c + u) (by omega) (by omega) (by decide), ga_n hc (by decide), r1 3 _ (by decide), r1 1 _ (by decide), h1, h3 u (by omega)]
  unfold tr
  by_cases e1 : C.1 = 1
  · have hmk := hu16.2 (by omega)
    rw [if_pos (yE (by omega)), if_pos e1]
    by_cases m0 : m = 0
    · subst m0
      rw [if_pos (show iI ((0 : Nat) : Int) = 0 from rfl), ga_n hc (by decide), r1 2 _ (by decide), h2, if_pos rfl]
      by_cases hd : u < C.2.1
      · rw [if_pos (yT (by omega) (by omega) (by omega)), if_pos hd, show iI 0 = iI ((0 : Nat) : Int) from rfl, m_ends _ hmk, bI_s, wr_wr]
      · rw [if_neg (nT (by omega) (by omega) (by omega)), if_neg hd]; rfl
    · rw [if_neg (nE0 (by omega) (by have := ms_le C; omega)), if_neg m0, show iI 0 = iI ((0 : Nat) : Int) from rfl, m_ends _ hmk, bI_s, wr_wr]
  · rw [if_neg (nE (by omega) (by omega) (by omega)), if_neg e1]
    by_cases e2 : C.1 = 2
    · rw [if_pos (yE (by omega)), if_pos e2]
      unfold X7_stepCounted
      have hm5 : m < 5 := by have := ms_le C; omega
      by_cases m0 : m = 0
      · subst m0
        rw [if_pos (show iI ((0 : Nat) : Int) ≤ 0 by decide), if_pos rfl]
        by_cases k7 : C.2.2.1 u = 7
        · rw [if_pos (yE (by omega)), if_pos k7]; rfl
        · rw [if_neg (nE (by omega) (by omega) (by omega)), if_neg k7]
          by_cases kb : 2 < C.2.2.1 u
          · rw [if_pos (yT (by omega) (by omega) (by omega)), if_pos kb, iI_sub, bI_s]
            show some (iI _, _) = some (iI _, _)
            congr 3; dsimp only; omega
          · rw [if_neg (nT (by omega) (by omega) (by omega)), if_neg kb, show iI 0 = iI ((0 : Nat) : Int) from rfl, m_ends _ (by omega), bI_s, bI_s, wr_wr]
      · rw [if_neg (nL0 (by omega) (by omega)), if_neg m0]
        by_cases k7 : C.2.2.1 u = 7
        · rw [if_pos (yE (by omega)), if_pos k7]
          by_cases m3 : 3 ≤ m
          · rw [if_pos (yL (by omega) (by omega) (by omega)), if_pos m3]
            simp only [bnd_e]
            rw [if_pos (yL (by omega) (by omega) (by omega)), bI_s, wr_wr, iI_sub]
            show some (iI _, _) = some (iI _, _)
            congr 3; dsimp only; omega
          · rw [if_neg (nL (by omega) (by omega) (by omega)), if_neg m3]
            simp only [bnd_e]
            rw [if_neg (nL (by omega) (by omega) (by omega)), bI_s, wr_wr, iI_sub]
            rfl
        · rw [if_neg (nE (by omega) (by omega) (by omega)), if_neg k7]; rfl
    · rw [if_neg (nE (by omega) (by omega) (by omega)), if_neg e2]
      have hmk := hu16.2 e2
      by_cases e3 : C.1 = 3
      · have hm2 : m < 2 := by unfold ms at hm; rw [e3] at hm; simpa using hm
        rw [if_pos (yE (by omega)), if_pos e3]
        unfold X7_stepTurned
        rw [ga_n hc (by decide), r1 2 _ (by decide), h2]
        by_cases hd : u = C.2.1
        · rw [if_pos (by rw [hd]), if_pos hd, iI_sub, bI_s]
          show some (iI _, _) = some (iI _, _)
          congr 3; dsimp only; omega
        · rw [if_neg (nE (by omega) (by omega) (by omega)), if_neg hd, iI_mul, iI_mul, iI_add, iI_add, ga_e (k := 16 * c + (8 * m + u)) (by omega) (by omega) (by decide), r1 3 _ (by decide), h3 (8 * m + u) (by omega), m_ends _ ((k3 (8 * m + u) (by omega)).2 e2), bI_s, bI_s, wr_wr]
      · rw [if_neg (nE (by omega) (by omega) (by omega)), if_neg e3, show iI 0 = iI ((0 : Nat) : Int) from rfl, m_ends _ hmk, bI_s, wr_wr]
end MCODE

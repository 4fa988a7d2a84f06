/-! sure: the reference's leads, and its answer. -/
def eM (o : Option Int) : Int32 := iI (o.getD (-100000))
def LdM (w : Wd) (L : Nat → Nat → Option Int) : Prop := ∀ i, i < 225 → rd w 12 8 i = eM (L (i / 15) (i % 15))
def SPB (g o j : Nat) : Prop := g = 12 ∧ o = 0 ∧ (j = 13 ∨ j = 25)
def SLd (g o j : Nat) : Prop := g = 12 ∧ ((o = 0 ∧ (j = 13 ∨ j = 25)) ∨ o = 8 ∨ o = 9)
theorem SPB_d {g o j : Nat} (h : SPB g o j) : SLd g o j := by unfold SPB at h; unfold SLd; omega
theorem eM_max {o : Option Int} {z : Int} (ho : oBd 1000 o) (hz : -1000 ≤ z ∧ z ≤ 1000) : (if iI z ≤ eM o then eM o else iI z) = eM (omx o (some z)) := by
  cases o with
  | none =>
    rw [show eM none = iI (-100000) from rfl, if_neg (nL (by omega) (by omega) (by omega))]; rfl
  | some x =>
    have := ho x rfl
    rw [show eM (some x) = iI x from rfl, show eM (omx (some x) (some z)) = iI (max x z) from rfl]
    by_cases q : z ≤ x
    · rw [if_pos (yL q (by omega) (by omega))]; congr 1; omega
    · rw [if_neg (nL (by omega) (by omega) (by omega))]; congr 1; omega
section LEADM
variable {w : Wd} {a b : Nat} {C1 C2 : Cd} {L : Nat → Nat → Option Int}
theorem m_behind {c : Nat} {C : Cd} (hC : CodeM w c C) (hk : cok C) (hc : c < 4) {p u : Nat} (hp : p < 3 * ms C) (hu : u < 8) : ∃ w', X7_placeBehind w (iI (c : Nat)) (iI (p : Nat)) (iI (u : Nat)) = some (oE (nx C p u), w') ∧ Fr SPB w w' ∧ (nx C p u ≠ none → rd w' 12 0 25 = iI (gn C p u : Nat)) := by
  have hms := ms_le C
  unfold X7_placeBehind
  rw [iI_irm (by omega) (by omega) (by decide) (by decide), iI_sub, bnd_e, iI_div (by omega) (by omega) (by decide) (by decide), show ((p : Int) / 3) = ((p / 3 : Nat) : Int) by omega, m_step hC hk hc (by omega) hu, bI_s]
  have f1 : Fr SPB w (wr w 12 0 13 (sE (tr C (p / 3) u))) := (Fr.rf _ w).wr _ (by unfold SPB; omega)
  have h13 : rd (wr w 12 0 13 (sE (tr C (p / 3) u))) 12 0 13 = sE (tr C (p / 3) u) := rd_eq
  have hC2 : CodeM (wr w 12 0 13 (sE (tr C (p / 3) u))) c C := hC.fr (fun o j h1 h2 => f1.1 _ o j (by unfold SPB; omega))
  generalize wr w 12 0 13 (sE (tr C (p / 3) u)) = w1 at f1 h13 hC2 ⊢
  have et : trc C (p / 3) u = tr C (p / 3) u := trc_in (by omega)
  cases e : tr C (p / 3) u with
  | none =>
    have en : nx C p u = none := by unfold nx; rw [et, e]
    rw [show oE (Option.map (fun q => q.1) (none : Option (Nat × Nat))) = iI (-1) from rfl, if_pos rfl, en]
    exact ⟨w1, rfl, f1, fun q => absurd rfl q⟩
  | some q =>
    obtain ⟨m', s⟩ := q
    obtain ⟨-, q1, q2⟩ := trc_ok hk hu (et.trans e)
    rw [e] at h13
    rw [show oE (Option.map (fun q => q.1) (some (m', s))) = iI (m' : Nat) from rfl, if_neg (nE (by omega) (by omega) (by omega))]
    have h13' : rd w1 12 0 13 = iI ((s : Int) - 1) := h13
    have hg : X7_gain w1 (iI (c : Nat)) (iI ((p : Int) % 3 - 1)) = some (iI (gn C p u : Nat)) := by
      unfold X7_gain gn
      rw [et, e, h13']
      dsimp only
      by_cases hp3 : p % 3 = 0
      · rw [if_pos (yE (by omega))]
        by_cases hs : s = 0
        · simp [hs]
        · simp [hs, hp3]
      · rw [if_neg (nE (by omega) (by omega) (by omega))]
        by_cases hs : s = 0
        · rw [if_pos (yE (by omega))]; simp [hs]
        · rw [if_neg (nE (by omega) (by omega) (by omega)), iI_mul, iI_mul, iI_add, iI_add, ga_e (k := 4 * c + ((p % 3 - 1) * 2 + (s - 1))) (by omega) (by omega) (by decide), hC2.2.2.2 _ (by omega)]
          simp [hs, hp3]
    rw [hg, ob_s, bnd_e, rd_j (by decide), h13']
    refine ⟨wr w1 12 0 25 (iI (gn C p u : Nat)), ?_, f1.wr _ (by unfold SPB; omega), fun _ => rd_eq⟩
    unfold X7_placeOf
    by_cases hs : s = 0
    · have en : nx C p u = some (3 * m' + p % 3) := by unfold nx; rw [et, e]; simp [hs]
      rw [if_pos (yE (by omega)), en, iI_mul, iI_add, iI_add, show oE (some (3 * m' + p % 3)) = iI ((3 * m' + p % 3 : Nat) : Int) from rfl]
      congr 3; omega
    · have en : nx C p u = some (3 * m' + s) := by unfold nx; rw [et, e]; simp [hs]
      rw [if_neg (nE (by omega) (by omega) (by omega)), en, iI_mul, iI_add, iI_add, show oE (some (3 * m' + s)) = iI ((3 * m' + s : Nat) : Int) from rfl]
      congr 3; omega
theorem SPB_code {w' : Wd} {c : Nat} {C : Cd} (fr : Fr SPB w w') (h : CodeM w c C) : CodeM w' c C := h.fr (fun o j h1 h2 => fr.1 _ o j (by unfold SPB; omega))
theorem SLd_code {w' : Wd} {c : Nat} {C : Cd} (fr : Fr SLd w w') (h : CodeM w c C) : CodeM w' c C := h.fr (fun o j h1 h2 => fr.1 _ o j (by unfold SLd; omega))
theorem m_moreBy (hA : CodeM w a C1) (hB : CodeM w b C2) (k1 : cok C1) (k2 : cok C2) (ha : a < 4) (hb : b < 4) (hL : LdM w L) (hLb : ∀ p q, oBd 400 (L p q)) {i u : Nat} (h1 : i / 15 < 3 * ms C1) (h2 : i % 15 < 3 * ms C2) (hu : u < 8) : ∃ w', X7_moreBy w (iI (a : Nat)) (iI (b : Nat)) (iI (i : Nat)) (iI (u : Nat)) = some (eM (cnd C1 C2 L (i / 15) (i % 15) u), w') ∧ Fr SPB w w' := by
  have hm1 := ms_le C1
  have hm2 := ms_le C2
  have G1 := gn_le k1 (p := i / 15) hu
  have G2 := gn_le k2 (p := i % 15) hu
  unfold X7_moreBy
  obtain ⟨w1, a1, a2, a3⟩ := m_behind hA k1 ha h1 hu
  rw [iI_div (by omega) (by omega) (by decide) (by decide), show ((i : Int) / 15) = ((i / 15 : Nat) : Int) by omega, a1, bI_s]
  cases e1 : nx C1 (i / 15) u with
  | none =>
    rw [show oE none = iI (-1) from rfl, if_pos rfl, cnd_n1 e1]
    exact ⟨w1, rfl, a2⟩
  | some q1 =>
    have hq1 := (nx_lt k1 hu e1).1
    obtain ⟨w2, b1, b2, b3⟩ := m_behind (SPB_code a2 hB) k2 hb h2 hu
    rw [show oE (some q1) = iI (q1 : Nat) from rfl, if_neg (nE (by omega) (by omega) (by omega)), a3 (by rw [e1]; exact fun z => by cases z), bnd_e, iI_irm (by omega) (by omega) (by decide) (by decide), show ((i : Int) % 15) = ((i % 15 : Nat) : Int) by omega, b1, bI_s]
    cases e2 : nx C2 (i % 15) u with
    | none =>
      rw [show oE none = iI (-1) from rfl, if_pos rfl, cnd_n2 e2]
      exact ⟨w2, rfl, a2.tr b2⟩
    | some q2 =>
      have hq2 := (nx_lt k2 hu e2).1
      have hl : rd w2 12 8 (15 * q1 + q2) = eM (L q1 q2) := by
        rw [b2.1 _ _ _ (by unfold SPB; omega), a2.1 _ _ _ (by unfold SPB; omega), hL _ (by omega)]
        congr 2 <;> omega
      rw [show oE (some q2) = iI (q2 : Nat) from rfl, if_neg (nE (by omega) (by omega) (by omega)), iI_mul, iI_add]
      simp only [ga_e (k := 15 * q1 + q2) (show (15 : Int) * (q1 : Nat) + (q2 : Nat) = ((15 * q1 + q2 : Nat) : Int) by omega) (show 15 * q1 + q2 < 225 by omega) (show (225 : Nat) < 2147483648 by decide), hl, b3 (show nx C2 (i % 15) u ≠ none by rw [e2]; exact fun z => by cases z)]
      refine ⟨w2, ?_, a2.tr b2⟩
      cases e3 : L q1 q2 with
      | none =>
        rw [if_pos (show eM none = iI (-100000) from rfl)]
        congr 2
        unfold cnd; rw [e1, e2]; dsimp only; rw [e3]; rfl
      | some z =>
        have hz := hLb q1 q2 z e3
        rw [show eM (some z) = iI z from rfl, if_neg (nE (by omega) (by omega) (by omega)), iI_add, iI_sub]
        congr 2
        unfold cnd; rw [e1, e2]; dsimp only; rw [e3]; rfl
theorem m_backU (hA : CodeM w a C1) (hB : CodeM w b C2) (k1 : cok C1) (k2 : cok C2) (ha : a < 4) (hb : b < 4) (hLb : ∀ p q, oBd 400 (L p q)) {i : Nat} (hi : i < 225) (h1 : i / 15 < 3 * ms C1) (h2 : i % 15 < 3 * ms C2) (K : Int32 → Int32 → Int32 → Wd → Option Wd) :
    ∀ d u fuel w1, u + d = 8 → d < fuel → Fr SLd w w1 → LdM w1 L → (∀ j, j ≤ i → rd w1 12 9 j = eM (ldU C1 C2 L (j / 15) (j % 15) (if j < i then 8 else u))) → ∃ w', X7_goBack_L61 fuel K (iI (a : Nat)) (iI (b : Nat)) (iI (i : Nat)) (iI 1) (iI (u : Nat)) w1 = K (iI (a : Nat)) (iI (b : Nat)) (iI (i : Nat)) w' ∧ Fr SLd w w' ∧ LdM w' L ∧ (∀ j, j ≤ i → rd w' 12 9 j = eM (ldU C1 C2 L (j / 15) (j % 15) 8)) := by
  intro d
  induction d with
  | zero =>
    intro u fuel w1 hd hf f1 hL hc
    obtain ⟨f', rfl⟩ : ∃ f', fuel = f' + 1 := ⟨fuel - 1, by omega⟩
    obtain rfl : u = 8 := by omega
    rw [X7_goBack_L61, if_pos (by decide)]
    exact ⟨w1, rfl, f1, hL, fun j hj => by have := hc j hj; rw [show (if j < i then 8 else 8) = 8 by split <;> rfl] at this; exact this⟩
  | succ d ih =>
    intro u fuel w1 hd hf f1 hL hc
    obtain ⟨f', rfl⟩ : ∃ f', fuel = f' + 1 := ⟨fuel - 1, by omega⟩
    obtain ⟨w2, e1, e2⟩ := m_moreBy (SLd_code f1 hA) (SLd_code f1 hB) k1 k2 ha hb hL hLb h1 h2 (show u < 8 by omega)
    rw [X7_goBack_L61, if_neg (nL (by omega) (by omega) (by omega)), if_neg (by decide), e1, bI_s]
    simp only [ga_n hi (show (225 : Nat) < 2147483648 by decide), pa_n hi (show (225 : Nat) < 2147483648 by decide), bnd_e, iI_add]
    have hii := hc i (Nat.le_refl _)
    rw [if_neg (by omega)] at hii
    have hi2 : rd w2 12 9 i = eM (ldU C1 C2 L (i / 15) (i % 15) u) := by rw [e2.1 _ _ _ (by unfold SPB; omega)]; exact hii
    rw [hi2]
    have bdU : oBd 1000 (ldU C1 C2 L (i / 15) (i % 15) u) := fun y hy => by have := ldU_bd k1 k2 hLb (p1 := i / 15) (p2 := i % 15) u (by omega) y hy; omega
    have go : ∀ v, v = eM (ldU C1 C2 L (i / 15) (i % 15) (u + 1)) → ∃ w', X7_goBack_L61 f' K (iI (a : Nat)) (iI (b : Nat)) (iI (i : Nat)) (iI 1) (iI ((u : Int) + 1)) (wr w2 12 9 i v) = K (iI (a : Nat)) (iI (b : Nat)) (iI (i : Nat)) w' ∧ Fr SLd w w' ∧ LdM w' L ∧ (∀ j, j ≤ i → rd w' 12 9 j = eM (ldU C1 C2 L (j / 15) (j % 15) 8)) := by
      intro v hv
      refine ih (u + 1) f' _ (by omega) (by omega) ((f1.tr (e2.mono (fun _ _ _ q => SPB_d q))).wr _ (by unfold SLd; omega)) (fun j hj => by rw [rd_o (by decide), e2.1 _ _ _ (by unfold SPB; omega)]; exact hL j hj) (fun j hj => ?_)
      by_cases q : j = i
      · subst q; rw [rd_eq, if_neg (by omega), hv]
      · have := hc j hj
        rw [if_pos (by omega)] at this
        rw [rd_j q, e2.1 _ _ _ (by unfold SPB; omega), if_pos (by omega), this]
    have eU : ldU C1 C2 L (i / 15) (i % 15) (u + 1) = omx (ldU C1 C2 L (i / 15) (i % 15) u) (cnd C1 C2 L (i / 15) (i % 15) u) := rfl
    cases ec : cnd C1 C2 L (i / 15) (i % 15) u with
    | none =>
      rw [ec, omx_n] at eU
      rw [← eU] at bdU ⊢
      rw [show eM none = iI (-100000) from rfl]
      cases eo : ldU C1 C2 L (i / 15) (i % 15) (u + 1) with
      | none =>
        rw [show eM none = iI (-100000) from rfl, if_pos (yL (by omega) (by omega) (by omega))]
        exact go _ (by rw [eo]; rfl)
      | some x =>
        have := bdU x eo
        rw [show eM (some x) = iI x from rfl, if_pos (yL (by omega) (by omega) (by omega))]
        exact go _ (by rw [eo]; rfl)
    | some z =>
      have hz := cnd_bd k1 k2 hLb (show u < 8 by omega) z ec
      rw [ec] at eU
      have mx := eM_max (o := ldU C1 C2 L (i / 15) (i % 15) u) (z := z) bdU (by omega)
      rw [show eM (some z) = iI z from rfl]
      by_cases q : iI z ≤ eM (ldU C1 C2 L (i / 15) (i % 15) u)
      · rw [if_pos q] at mx ⊢
        exact go _ (by rw [eU]; exact mx)
      · rw [if_neg q] at mx ⊢
        exact go _ (by rw [eU]; exact mx)
theorem m_backI (hA : CodeM w a C1) (hB : CodeM w b C2) (k1 : cok C1) (k2 : cok C2) (ha : a < 4) (hb : b < 4) (hLb : ∀ p q, oBd 400 (L p q)) (K : Wd → Option Wd) :
    ∀ d i fuel w1, i + d = 225 → d < fuel → Fr SLd w w1 → LdM w1 L → (∀ j, j < i → rd w1 12 9 j = eM (ldU C1 C2 L (j / 15) (j % 15) 8)) → ∃ w', X7_goBack_L2 fuel K (iI (a : Nat)) (iI (b : Nat)) (iI (i : Nat)) w1 = K w' ∧ Fr SLd w w' ∧ (∀ j, j < 225 → rd w' 12 9 j = eM (ldU C1 C2 L (j / 15) (j % 15) 8)) := by
  have hm1 := ms_le C1
  have hm2 := ms_le C2
  intro d
  induction d with
  | zero =>
    intro i fuel w1 hd hf f1 hL hc
    obtain ⟨f', rfl⟩ : ∃ f', fuel = f' + 1 := ⟨fuel - 1, by omega⟩
    rw [X7_goBack_L2, if_pos (yL (by omega) (by omega) (by omega))]
    exact ⟨w1, rfl, f1, fun j hj => hc j (by omega)⟩
  | succ d ih =>
    intro i fuel w1 hd hf f1 hL hc
    obtain ⟨f', rfl⟩ : ∃ f', fuel = f' + 1 := ⟨fuel - 1, by omega⟩
    have hA1 := SLd_code f1 hA
    have hB1 := SLd_code f1 hB
    rw [X7_goBack_L2, if_neg (nL (by omega) (by omega) (by omega)), pa_n (by omega) (by decide), ga_n ha (by decide), rd_o (by decide), hA1.1, iI_div (by omega) (by omega) (by decide) (by decide), show ((i : Int) / 45) = ((i / 45 : Nat) : Int) by omega, m_isState k1 (by omega)]
    have f2 : Fr SLd w (wr w1 12 9 i (iI (-100000))) := f1.wr _ (by unfold SLd; omega)
    have hL2 : LdM (wr w1 12 9 i (iI (-100000))) L := fun j hj => by rw [rd_o (by decide)]; exact hL j hj
    have hc2 : ∀ j, j ≤ i → rd (wr w1 12 9 i (iI (-100000))) 12 9 j = eM (ldU C1 C2 L (j / 15) (j % 15) (if j < i then 8 else 0)) := by
      intro j hj
      by_cases q : j = i
      · subst q; rw [rd_eq, if_neg (by omega)]; rfl
      · rw [rd_j q, hc j (by omega), if_pos (by omega)]
    have skip : (3 * ms C1 ≤ i / 15 ∨ 3 * ms C2 ≤ i % 15) → ∃ w', X7_goBack_L61 1000 (X7_goBack_L118 (X7_goBack_L2 f' K)) (iI (a : Nat)) (iI (b : Nat)) (iI (i : Nat)) (iI 0) (iI 0) (wr w1 12 9 i (iI (-100000))) = K w' ∧ Fr SLd w w' ∧ (∀ j, j < 225 → rd w' 12 9 j = eM (ldU C1 C2 L (j / 15) (j % 15) 8)) := by
      intro out
      rw [X7_goBack_L61, if_neg (by decide), if_pos (show iI 0 = 0 from rfl)]
      unfold X7_goBack_L118
      rw [bnd_e, iI_add]
      refine ih (i + 1) f' _ (by omega) (by omega) f2 hL2 (fun j hj => ?_)
      rw [hc2 j (by omega)]
      by_cases q : j < i
      · rw [if_pos q]
      · obtain rfl : j = i := by omega
        rw [if_neg q]
        rcases out with o | o
        · rw [ldU_n1 o, ldU_n1 o]
        · rw [ldU_n2 o, ldU_n2 o]
    by_cases s1 : i / 45 < ms C1
    · rw [decide_eq_true s1, if_neg (by decide), ga_n hb (by decide), rd_o (by decide), hB1.1, iI_irm (by omega) (by omega) (by decide) (by decide), iI_div (by omega) (by omega) (by decide) (by decide), show ((i : Int) % 15 / 3) = ((i % 15 / 3 : Nat) : Int) by omega, m_isState k2 (by omega)]
      by_cases s2 : i % 15 / 3 < ms C2
      · rw [decide_eq_true s2, if_neg (by decide)]
        obtain ⟨w2, e1, e2, e3, e4⟩ := m_backU (w := w) (L := L) hA hB k1 k2 ha hb hLb (show i < 225 by omega) (by omega) (by omega) (X7_goBack_L118 (X7_goBack_L2 f' K)) 8 0 1000 _ (by omega) (by omega) f2 hL2 hc2
        rw [show X7_goBack_L61 1000 (X7_goBack_L118 (X7_goBack_L2 f' K)) (iI (a : Nat)) (iI (b : Nat)) (iI (i : Nat)) (iI 1) (iI 0) (wr w1 12 9 i (iI (-100000))) = _ from e1]
        unfold X7_goBack_L118
        rw [bnd_e, iI_add]
        exact ih (i + 1) f' w2 (by omega) (by omega) e2 e3 (fun j hj => e4 j (by omega))
      · rw [decide_eq_false s2, if_pos (by decide)]
        exact skip (by omega)
    · rw [decide_eq_false s1, if_pos (by decide)]
      exact skip (by omega)
theorem m_backC {L2 : Nat → Option Int} : ∀ d i fuel w1, i + d = 225 → d < fuel → Fr SLd w w1 → (∀ j, j < 225 → rd w1 12 9 j = eM (L2 j)) → (∀ j, j < i → rd w1 12 8 j = eM (L2 j)) → ∃ w', X7_goBack_L126 fuel (iI (i : Nat)) w1 = some w' ∧ Fr SLd w w' ∧ (∀ j, j < 225 → rd w' 12 8 j = eM (L2 j)) := by
  intro d
  induction d with
  | zero =>
    intro i fuel w1 hd hf f1 h1 h2
    obtain ⟨f', rfl⟩ : ∃ f', fuel = f' + 1 := ⟨fuel - 1, by omega⟩
    rw [X7_goBack_L126, if_pos (yL (by omega) (by omega) (by omega))]
    exact ⟨w1, rfl, f1, fun j hj => h2 j (by omega)⟩
  | succ d ih =>
    intro i fuel w1 hd hf f1 h1 h2
    obtain ⟨f', rfl⟩ : ∃ f', fuel = f' + 1 := ⟨fuel - 1, by omega⟩
    rw [X7_goBack_L126, if_neg (nL (by omega) (by omega) (by omega)), ga_n (by omega) (by decide), h1 i (by omega), pa_n (by omega) (by decide), bnd_e, iI_add]
    exact ih (i + 1) f' _ (by omega) (by omega) (f1.wr _ (by unfold SLd; omega)) (fun j hj => by rw [rd_o (by decide)]; exact h1 j hj) (fun j hj => by
      by_cases q : j = i
      · subst q; rw [rd_eq]
      · rw [rd_j q]; exact h2 j (by omega))
theorem m_goBack (hA : CodeM w a C1) (hB : CodeM w b C2) (k1 : cok C1) (k2 : cok C2) (ha : a < 4) (hb : b < 4) (hLb : ∀ p q, oBd 400 (L p q)) (hL : LdM w L) : ∃ w', X7_goBack w (iI (a : Nat)) (iI (b : Nat)) = some w' ∧ Fr SLd w w' ∧ LdM w' (fun p q => ldU C1 C2 L p q 8) := by
  unfold X7_goBack
  obtain ⟨w1, a1, a2, a3⟩ := m_backI (w := w) (L := L) hA hB k1 k2 ha hb hLb X7_goBack_L124 225 0 1000 w (by omega) (by omega) (Fr.rf _ w) hL (fun j hj => by omega)
  rw [show X7_goBack_L2 1000 X7_goBack_L124 (iI (a : Nat)) (iI (b : Nat)) (iI 0) w = _ from a1]
  unfold X7_goBack_L124
  exact m_backC (L2 := fun j => ldU C1 C2 L (j / 15) (j % 15) 8) 225 0 1000 w1 (by omega) (by omega) a2 a3 (fun j hj => by omega)
theorem m_begB : ∀ d i fuel w1, i + d = 225 → d < fuel → Fr SLd w w1 → (∀ j, j < i → rd w1 12 8 j = eM (ld C1 C2 0 (j / 15) (j % 15))) → ∃ w', X7_beginBack_L2 fuel (iI (i : Nat)) w1 = some w' ∧ Fr SLd w w' ∧ LdM w' (ld C1 C2 0) := by
  intro d
  induction d with
  | zero =>
    intro i fuel w1 hd hf f1 h2
    obtain ⟨f', rfl⟩ : ∃ f', fuel = f' + 1 := ⟨fuel - 1, by omega⟩
    rw [X7_beginBack_L2, if_pos (yL (by omega) (by omega) (by omega))]
    exact ⟨w1, rfl, f1, fun j hj => h2 j (by omega)⟩
  | succ d ih =>
    intro i fuel w1 hd hf f1 h2
    obtain ⟨f', rfl⟩ : ∃ f', fuel = f' + 1 := ⟨fuel - 1, by omega⟩
    rw [X7_beginBack_L2, if_neg (nL (by omega) (by omega) (by omega)), iI_div (by omega) (by omega) (by decide) (by decide), iI_irm (by omega) (by omega) (by decide) (by decide), iI_div (by omega) (by omega) (by decide) (by decide)]
    simp only [pa_n (show i < 225 by omega) (show (225 : Nat) < 2147483648 by decide), bnd_e, iI_add]
    have go : ∀ v, v = eM (ld C1 C2 0 (i / 15) (i % 15)) → ∃ w', X7_beginBack_L2 f' (iI ((i : Int) + 1)) (wr w1 12 8 i v) = some w' ∧ Fr SLd w w' ∧ LdM w' (ld C1 C2 0) := by
      intro v hv
      exact ih (i + 1) f' _ (by omega) (by omega) (f1.wr _ (by unfold SLd; omega)) (fun j hj => by
        by_cases q : j = i
        · subst q; rw [rd_eq, hv]
        · rw [rd_j q]; exact h2 j (by omega))
    by_cases q1 : i / 45 = 0
    · rw [if_pos (yE0 (by omega))]
      by_cases q2 : i % 15 / 3 = 0
      · rw [if_pos (yE0 (by omega))]
        exact go _ (by unfold ld; rw [if_pos (by omega)]; rfl)
      · rw [if_neg (nE0 (by omega) (by omega))]
        exact go _ (by unfold ld; rw [if_neg (by omega)]; rfl)
    · rw [if_neg (nE0 (by omega) (by omega))]
      exact go _ (by unfold ld; rw [if_neg (by omega)]; rfl)
end LEADM

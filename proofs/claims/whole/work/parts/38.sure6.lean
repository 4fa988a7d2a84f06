/-! sure: the reference's answer. -/
def SLz (g o j : Nat) : Prop := g = 12 ∧ ((o = 0 ∧ (13 ≤ j ∧ j ≤ 18 ∨ j = 25)) ∨ o = 7 ∨ o = 8 ∨ o = 9 ∨ o = 10)
theorem SLd_z {g o j : Nat} (h : SLd g o j) : SLz g o j := by unfold SLd at h; unfold SLz; omega
theorem SRun_z {g o j : Nat} (h : SRun g o j) : SLz g o j := by unfold SRun at h; unfold SLz; omega
theorem SLz_m {g o j : Nat} (h : SLz g o j) : ScM g o j := by unfold SLz at h; unfold ScM; omega
section SUREM2
variable {w : Wd} {cm ln n : Nat} {us : Nat → Nat} {C : Nat → Cd}
theorem place_reg {w1 : Wd} {r : Rn} (h : MReg w1 r) (ha : r.1 = true) (hp : r.2.2.1 < 15) : X7_placeOf (rd w1 12 0 14) (rd w1 12 0 15) = iI (r.2.2.1 : Nat) := by
  unfold X7_placeOf
  rw [h.1, h.2.1, if_pos ha, iI_mul, iI_add, iI_add]
  congr 1; omega
theorem MC.canLose (h : MC w cm ln n us C) {a b N : Nat} (ha : a < n) (hb : b < n) (hN : N ≤ cm) (hL : LdM w (ld (C a) (C b) (ln - N))) : ∃ r w', X7_canLose w (iI (a : Nat)) (iI (b : Nat)) (iI (N : Nat)) = some (r, w') ∧ Fr SRun w w' ∧ ((r = iI 1 ∧ bt (C a) (C b) us cm ln (b5of a b) N) ∨ (r = iI 0 ∧ ¬ bt (C a) (C b) us cm ln (b5of a b) N)) := by
  obtain ⟨h1, h2, h3, h4, h5, h6, h7, h8, h9⟩ := id h
  obtain ⟨ka, xa⟩ := h9 a ha
  obtain ⟨kb, xb⟩ := h9 b hb
  have hma := ms_le (C a)
  have hmb := ms_le (C b)
  have pa' : (rn (C a) us N).2.2.1 < 3 * ms (C a) := rnF_pl ka (us := us) (f := 0) N (fun j hj => by rw [Nat.zero_add]; exact (h8 j (by omega)).1)
  have pb' : (rn (C b) us N).2.2.1 < 3 * ms (C b) := rnF_pl kb (us := us) (f := 0) N (fun j hj => by rw [Nat.zero_add]; exact (h8 j (by omega)).1)
  have wa : (rn (C a) us N).2.2.2.2.1 ≤ 9 * N := (rnF_bd ka (us := us) (f := 0) N (fun j hj => by rw [Nat.zero_add]; exact (h8 j (by omega)).1)).2.2.1
  have wb : (rn (C b) us N).2.2.2.2.1 ≤ 9 * N := (rnF_bd kb (us := us) (f := 0) N (fun j hj => by rw [Nat.zero_add]; exact (h8 j (by omega)).1)).2.2.1
  obtain ⟨w1, e1, e2, e3⟩ := m_goAlong (w := w) (c := a) xa ka (by omega) (us := us) (many := N) (by omega) (fun j hj => h8 j (by omega))
  unfold X7_canLose
  rw [e1, ob_s, e2.1]
  have dead : ∀ c, (rn (C c) us N).1 = false → stt (C c) us cm N = none := by
    intro c e
    unfold stt
    rw [if_neg (fun z => by rw [e] at z; exact absurd z.2 (by decide))]
  cases ea : (rn (C a) us N).1 with
  | false =>
    rw [if_neg (show ¬ false = true by decide), if_pos rfl]
    exact ⟨_, w1, rfl, e3, Or.inr ⟨rfl, fun t => by obtain ⟨p1, p2, z, q1, -⟩ := t; rw [dead a ea] at q1; cases q1⟩⟩
  | true =>
    have hw1 := h.fr (e3.mono (fun _ _ _ q => SRun_m q))
    obtain ⟨w2, g1, g2, g3⟩ := m_goAlong (w := w1) (c := b) (hw1.2.2.2.2.2.2.2.2 b hb).2 kb (by omega) (us := us) (many := N) (by omega) (fun j hj => hw1.2.2.2.2.2.2.2.1 j (by omega))
    have hst : stt (C a) us cm N = some (rn (C a) us N).2.2.1 := by unfold stt; rw [if_pos ⟨by omega, ea⟩]
    have pr := place_reg e2 ea (by omega)
    rw [e2.1, if_pos ea] at pr
    rw [if_pos rfl, if_neg (nE (by omega) (by omega) (by omega)), pr, bnd_e, e2.2.2.2.1, bnd_e, g1, ob_s, g2.1]
    cases eb : (rn (C b) us N).1 with
    | false =>
      rw [if_neg (show ¬ false = true by decide), if_pos rfl]
      exact ⟨_, w2, rfl, e3.tr g3, Or.inr ⟨rfl, fun t => by obtain ⟨p1, p2, z, -, q1, -⟩ := t; rw [dead b eb] at q1; cases q1⟩⟩
    | true =>
      have hst2 : stt (C b) us cm N = some (rn (C b) us N).2.2.1 := by unfold stt; rw [if_pos ⟨by omega, eb⟩]
      have pr2 := place_reg g2 eb (by omega)
      rw [g2.1, if_pos eb] at pr2
      have hl : rd w2 12 8 (15 * (rn (C a) us N).2.2.1 + (rn (C b) us N).2.2.1) = eM (ld (C a) (C b) (ln - N) (rn (C a) us N).2.2.1 (rn (C b) us N).2.2.1) := by
        rw [(e3.tr g3).1 _ _ _ (by unfold SRun; omega), hL _ (by omega)]
        congr 2 <;> omega
      rw [if_pos rfl, if_neg (nE (by omega) (by omega) (by omega)), pr2, iI_mul, iI_add, ga_e (k := 15 * (rn (C a) us N).2.2.1 + (rn (C b) us N).2.2.1) (by omega) (by omega) (by decide), hl]
      cases el : ld (C a) (C b) (ln - N) (rn (C a) us N).2.2.1 (rn (C b) us N).2.2.1 with
      | none =>
        rw [if_pos (show eM none = iI (-100000) from rfl)]
        exact ⟨_, w2, rfl, e3.tr g3, Or.inr ⟨rfl, fun t => by
          obtain ⟨p1, p2, z, q1, q2, q3, -⟩ := t
          rw [hst] at q1; rw [hst2] at q2; cases q1; cases q2; rw [el] at q3; cases q3⟩⟩
      | some z =>
        have hz := ld_bd ka kb _ _ _ z el
        have yes : b5of a b ≤ ((rn (C b) us N).2.2.2.2.1 : Int) - ((rn (C a) us N).2.2.2.2.1 : Int) + z → bt (C a) (C b) us cm ln (b5of a b) N := fun q => ⟨_, _, z, hst, hst2, el, q⟩
        have no : ¬ b5of a b ≤ ((rn (C b) us N).2.2.2.2.1 : Int) - ((rn (C a) us N).2.2.2.2.1 : Int) + z → ¬ bt (C a) (C b) us cm ln (b5of a b) N := by
          intro q t
          obtain ⟨p1, p2, z', q1, q2, q3, q4⟩ := t
          rw [hst] at q1; rw [hst2] at q2; cases q1; cases q2; rw [el] at q3; cases q3
          exact q q4
        unfold b5of at yes no
        rw [show eM (some z) = iI z from rfl, if_neg (nE (by omega) (by omega) (by omega)), g2.2.2.2.1, iI_add, iI_sub, bnd_e]
        unfold b5of
        by_cases q1 : 0 < ((rn (C b) us N).2.2.2.2.1 : Int) + z - ((rn (C a) us N).2.2.2.2.1 : Int)
        · rw [if_pos (y0T q1 (by omega))]
          exact ⟨_, w2, rfl, e3.tr g3, Or.inl ⟨rfl, yes (by split <;> omega)⟩⟩
        · rw [if_neg (n0T (by omega) (by omega))]
          by_cases q2 : ((rn (C b) us N).2.2.2.2.1 : Int) + z - ((rn (C a) us N).2.2.2.2.1 : Int) = 0
          · rw [if_pos (yE0 q2)]
            by_cases q3 : a ≤ b
            · rw [if_pos (yL (by omega) (by omega) (by omega))]
              exact ⟨_, w2, rfl, e3.tr g3, Or.inr ⟨rfl, no (by rw [if_pos q3]; omega)⟩⟩
            · rw [if_neg (nL (by omega) (by omega) (by omega))]
              exact ⟨_, w2, rfl, e3.tr g3, Or.inl ⟨rfl, yes (by rw [if_neg q3]; omega)⟩⟩
          · rw [if_neg (nE0 q2 (by omega))]
            exact ⟨_, w2, rfl, e3.tr g3, Or.inr ⟨rfl, no (by split <;> omega)⟩⟩
theorem MC.losesL (h : MC w cm ln n us C) {a b : Nat} (ha : a < n) (hb : b < n) {G : Nat → Prop} :
    ∀ d k fuel w1, k + d = ln + 1 → d < fuel → Fr SLz w w1 → LdM w1 (ld (C a) (C b) (k - 1)) → CanM w1 cm (fun N => ln < N + k) (fun N => G N ∧ ¬ bt (C a) (C b) us cm ln (b5of a b) N) → CanM w1 cm (fun N => N + k ≤ ln) G → ∃ w', X7_layLoses_L6 fuel (iI (a : Nat)) (iI (b : Nat)) (iI (k : Nat)) w1 = some w' ∧ Fr SLz w w' ∧ CanM w' cm (fun _ => True) (fun N => G N ∧ ¬ bt (C a) (C b) us cm ln (b5of a b) N) := by
  obtain ⟨h1, h2, h3, h4, h5, h6, h7, h8, h9⟩ := id h
  obtain ⟨ka, xa⟩ := h9 a ha
  obtain ⟨kb, xb⟩ := h9 b hb
  intro d
  induction d with
  | zero =>
    intro k fuel w1 hd hf f1 hL hG1 hG2
    obtain ⟨f', rfl⟩ : ∃ f', fuel = f' + 1 := ⟨fuel - 1, by omega⟩
    have hw1 := h.fr (f1.mono (fun _ _ _ q => SLz_m q))
    rw [X7_layLoses_L6, hw1.2.2.2.2.2.2.1, if_pos (yT (by omega) (by omega) (by omega))]
    exact ⟨w1, rfl, f1, fun N hN _ => hG1 N hN (show ln < N + k by omega)⟩
  | succ d ih =>
    intro k fuel w1 hd hf f1 hL hG1 hG2
    obtain ⟨f', rfl⟩ : ∃ f', fuel = f' + 1 := ⟨fuel - 1, by omega⟩
    have hw1 := h.fr (f1.mono (fun _ _ _ q => SLz_m q))
    rw [X7_layLoses_L6, hw1.2.2.2.2.2.2.1, if_neg (nT (by omega) (by omega) (by omega))]
    have main : ∀ w2, Fr SLz w1 w2 → LdM w2 (ld (C a) (C b) k) → (∀ N, rd w2 12 10 N = rd w1 12 10 N) → ∃ w', X7_layLoses_L24 (X7_layLoses_L6 f') (iI (a : Nat)) (iI (b : Nat)) (iI (k : Nat)) w2 = some w' ∧ Fr SLz w w' ∧ CanM w' cm (fun _ => True) (fun N => G N ∧ ¬ bt (C a) (C b) us cm ln (b5of a b) N) := by
      intro w2 f2 hL2 h10
      have hw2 := h.fr ((f1.tr f2).mono (fun _ _ _ q => SLz_m q))
      generalize hN0 : ln - k = N0
      have hNi : (ln : Int) - (k : Nat) = (N0 : Nat) := by omega
      have next : ∀ w3, Fr SLz w1 w3 → LdM w3 (ld (C a) (C b) k) → (∀ N, N ≠ N0 → rd w3 12 10 N = rd w1 12 10 N) → (N0 ≤ cm → (rd w3 12 10 N0 = iI 1 ∧ G N0 ∧ ¬ bt (C a) (C b) us cm ln (b5of a b) N0) ∨ (rd w3 12 10 N0 = iI 0 ∧ ¬ (G N0 ∧ ¬ bt (C a) (C b) us cm ln (b5of a b) N0))) → ∃ w', X7_layLoses_L6 f' (iI (a : Nat)) (iI (b : Nat)) (iI ((k : Int) + 1)) w3 = some w' ∧ Fr SLz w w' ∧ CanM w' cm (fun _ => True) (fun N => G N ∧ ¬ bt (C a) (C b) us cm ln (b5of a b) N) := by
        intro w3 f3 hL3 ho hn0
        refine ih (k + 1) f' w3 (by omega) (by omega) (f1.tr f3) hL3 (fun N hN hP => ?_) (fun N hN hP => ?_)
        · have hP' : ln < N + (k + 1) := hP
          by_cases z : N = N0
          · subst z; exact hn0 hN
          · rw [ho N z]; exact hG1 N hN (show ln < N + k by omega)
        · have hP' : N + (k + 1) ≤ ln := hP
          rw [ho N (by omega)]; exact hG2 N hN (show N + k ≤ ln by omega)
      unfold X7_layLoses_L24
      rw [hw2.2.2.2.2.2.2.1, hw2.2.2.2.2.2.1, iI_sub, bnd_e, hNi]
      simp only [bnd_e, iI_add]
      by_cases q : cm < N0
      · rw [if_pos (yT (by omega) (by omega) (by omega))]
        exact next w2 f2 hL2 (fun N _ => h10 N) (fun q2 => by omega)
      · rw [if_neg (nT (by omega) (by omega) (by omega)), ga_n (by omega) (by decide), h10 N0]
        simp only [pa_n (show N0 < 41 by omega) (show (41 : Nat) < 2147483648 by decide)]
        have put : ∀ w3 v, Fr SLz w1 w3 → LdM w3 (ld (C a) (C b) k) → (∀ N, rd w3 12 10 N = rd w1 12 10 N) → ((v = iI 1 ∧ G N0 ∧ ¬ bt (C a) (C b) us cm ln (b5of a b) N0) ∨ (v = iI 0 ∧ ¬ (G N0 ∧ ¬ bt (C a) (C b) us cm ln (b5of a b) N0))) → ∃ w', X7_layLoses_L6 f' (iI (a : Nat)) (iI (b : Nat)) (iI ((k : Int) + 1)) (wr w3 12 10 N0 v) = some w' ∧ Fr SLz w w' ∧ CanM w' cm (fun _ => True) (fun N => G N ∧ ¬ bt (C a) (C b) us cm ln (b5of a b) N) := by
          intro w3 v f3 hL3 ho hv
          exact next _ (f3.wr _ (by unfold SLz; omega)) (fun j hj => by rw [rd_o (by decide)]; exact hL3 j hj) (fun N hN => by rw [rd_j hN]; exact ho N) (fun _ => by rw [rd_eq]; exact hv)
        rcases hG2 N0 (by omega) (show N0 + k ≤ ln by omega) with ⟨g1, g2⟩ | ⟨g1, g2⟩
        · rw [g1, if_neg (by decide)]
          obtain ⟨r, w3, k1, k2, k3⟩ := hw2.canLose ha hb (N := N0) (by omega) (by rw [show ln - N0 = k by omega]; exact hL2)
          rw [k1, bI_s]
          have fk : Fr SLz w1 w3 := f2.tr (k2.mono (fun _ _ _ q => SRun_z q))
          have lk : LdM w3 (ld (C a) (C b) k) := fun j hj => by rw [k2.1 _ _ _ (by unfold SRun; omega)]; exact hL2 j hj
          have ok : ∀ N, rd w3 12 10 N = rd w1 12 10 N := fun N => by rw [k2.1 _ _ _ (by unfold SRun; omega)]; exact h10 N
          rcases k3 with ⟨r1, r2⟩ | ⟨r1, r2⟩
          · subst r1
            rw [if_neg (by decide)]
            exact put w3 _ fk lk ok (Or.inr ⟨rfl, fun t => t.2 r2⟩)
          · subst r1
            rw [if_pos (by decide)]
            exact put w3 _ fk lk ok (Or.inl ⟨rfl, g2, r2⟩)
        · rw [g1, if_pos (by decide)]
          exact put w2 _ f2 hL2 h10 (Or.inr ⟨rfl, fun t => g2 t.1⟩)
    by_cases k0 : k = 0
    · subst k0
      rw [if_pos (by decide)]
      exact main w1 (Fr.rf _ w1) hL (fun _ => rfl)
    · rw [if_neg (nL0 (by omega) (by omega))]
      obtain ⟨w2, e1, e2, e3⟩ := m_goBack (L := ld (C a) (C b) (k - 1)) (hw1.2.2.2.2.2.2.2.2 a ha).2 (hw1.2.2.2.2.2.2.2.2 b hb).2 ka kb (by omega) (by omega) (fun p q z hz => by have := ld_bd ka kb _ p q z hz; omega) hL
      rw [e1, ob_s]
      have e3' : LdM w2 (ld (C a) (C b) k) := by
        have : k = k - 1 + 1 := by omega
        rw [this]; exact e3
      exact main w2 (e2.mono (fun _ _ _ q => SLd_z q)) e3' (fun N => e2.1 _ _ _ (by unfold SLd; omega))
theorem MC.loses (h : MC w cm ln n us C) {a b : Nat} (ha : a < n) (hb : b < n) {G : Nat → Prop} (hG : CanM w cm (fun _ => True) G) : ∃ w', X7_layLoses w (iI (a : Nat)) (iI (b : Nat)) = some w' ∧ Fr SLz w w' ∧ CanM w' cm (fun _ => True) (fun N => G N ∧ ¬ bt (C a) (C b) us cm ln (b5of a b) N) := by
  have hln := h.2.2.1
  unfold X7_layLoses X7_beginBack
  obtain ⟨w1, e1, e2, e3⟩ := m_begB (w := w) (C1 := C a) (C2 := C b) 225 0 1000 w (by omega) (by omega) (Fr.rf _ w) (fun j hj => by omega)
  rw [show X7_beginBack_L2 1000 (iI 0) w = _ from e1, ob_s]
  exact h.losesL ha hb (ln + 1) 0 1000 w1 (by omega) (by omega) (e2.mono (fun _ _ _ q => SLd_z q)) e3 (fun N hN hP => by have : ln < N + 0 := hP; have := h.2.2.2.1; omega) (fun N hN _ => by rw [e2.1 _ _ _ (by unfold SLd; omega)]; exact hG N hN trivial)
theorem m_scan {G : Nat → Prop} (h8 : rd w 12 0 8 = iI (cm : Nat)) (hcm : cm ≤ 40) (hln : cm ≤ ln) (hG : CanM w cm (fun _ => True) G) (hout : ∀ N, G N → N ≤ cm) : ∀ d N fuel, N + d = cm + 1 → d < fuel → (∀ M, M < N → ¬ G M) → ∃ r : Int, X7_sureAt_L34 fuel (iI (N : Nat)) w = some (iI r, w) ∧ FS G ln r := by
  intro d
  induction d with
  | zero =>
    intro N fuel hd hf hn
    obtain ⟨f', rfl⟩ : ∃ f', fuel = f' + 1 := ⟨fuel - 1, by omega⟩
    rw [X7_sureAt_L34, h8, if_pos (yT (by omega) (by omega) (by omega))]
    exact ⟨-1, rfl, Or.inl ⟨rfl, fun M _ g => hn M (by have := hout M g; omega) g⟩⟩
  | succ d ih =>
    intro N fuel hd hf hn
    obtain ⟨f', rfl⟩ : ∃ f', fuel = f' + 1 := ⟨fuel - 1, by omega⟩
    rw [X7_sureAt_L34, h8, if_neg (nT (by omega) (by omega) (by omega)), ga_n (by omega) (by decide)]
    rcases hG N (by omega) trivial with ⟨g1, g2⟩ | ⟨g1, g2⟩
    · rw [g1, if_neg (by decide)]
      exact ⟨N, rfl, Or.inr ⟨N, rfl, by omega, g2, hn⟩⟩
    · rw [g1, if_pos (by decide), bnd_e, iI_add]
      exact ih (N + 1) f' (by omega) (by omega) (fun M hM => by
        by_cases q : M = N
        · rw [q]; exact g2
        · exact hn M (by omega))
theorem MC.sureL (h : MC w cm ln n us C) {a : Nat} (ha : a < n) :
    ∀ d k fuel w1, k + d = n → d < fuel → Fr ScM w w1 → CanM w1 cm (fun _ => True) (fun N => hope (C a) us cm ln N ∧ ∀ b, b < k → b ≠ a → ¬ bt (C a) (C b) us cm ln (b5of a b) N) → ∃ (r : Int) (w' : Wd), X7_sureAt_L7 fuel X7_sureAt_L32 (iI (a : Nat)) (iI (k : Nat)) w1 = some (iI r, w') ∧ Fr ScM w w' ∧ FS (goodN C us cm ln n a) ln r := by
  obtain ⟨h1, h2, h3, h4, h5, h6, h7, h8, h9⟩ := id h
  intro d
  induction d with
  | zero =>
    intro k fuel w1 hd hf f1 hG
    obtain ⟨f', rfl⟩ : ∃ f', fuel = f' + 1 := ⟨fuel - 1, by omega⟩
    obtain rfl : k = n := by omega
    have hw1 := h.fr f1
    rw [X7_sureAt_L7, hw1.2.2.2.2.1, if_pos (yL (by omega) (by omega) (by omega))]
    unfold X7_sureAt_L32
    obtain ⟨r, e1, e2⟩ := m_scan (w := w1) (cm := cm) (ln := ln) (G := goodN C us cm ln k a) hw1.2.2.2.2.2.1 (by omega) h4 hG (fun N g => by
      obtain ⟨p, q1, -⟩ := g.1
      exact (stt_lt (h9 a ha).1 (fun j hj => (h8 j hj).1) q1).2) (cm + 1) 0 1000 (by omega) (by omega) (fun M hM => by omega)
    exact ⟨r, w1, e1, f1, e2⟩
  | succ d ih =>
    intro k fuel w1 hd hf f1 hG
    obtain ⟨f', rfl⟩ : ∃ f', fuel = f' + 1 := ⟨fuel - 1, by omega⟩
    have hw1 := h.fr f1
    rw [X7_sureAt_L7, hw1.2.2.2.2.1, if_neg (nL (by omega) (by omega) (by omega))]
    by_cases q : k = a
    · subst q
      rw [if_pos rfl, bnd_e, iI_add]
      refine ih (k + 1) f' w1 (by omega) (by omega) f1 (fun N hN _ => ?_)
      rcases hG N hN trivial with ⟨g1, g2⟩ | ⟨g1, g2⟩
      · exact Or.inl ⟨g1, g2.1, fun b hb hne => g2.2 b (by omega) hne⟩
      · exact Or.inr ⟨g1, fun t => g2 ⟨t.1, fun b hb hne => t.2 b (by omega) hne⟩⟩
    · rw [if_neg (nE (by omega) (by omega) (by omega))]
      obtain ⟨w2, e1, e2, e3⟩ := hw1.loses ha (show k < n by omega) hG
      rw [e1, ob_s, bnd_e, iI_add]
      refine ih (k + 1) f' w2 (by omega) (by omega) (f1.tr (e2.mono (fun _ _ _ q => SLz_m q))) (fun N hN _ => ?_)
      rcases e3 N hN trivial with ⟨g1, g2⟩ | ⟨g1, g2⟩
      · refine Or.inl ⟨g1, g2.1.1, fun b hb hne => ?_⟩
        by_cases z : b = k
        · subst z; exact g2.2
        · exact g2.1.2 b (by omega) hne
      · exact Or.inr ⟨g1, fun t => g2 ⟨⟨t.1, fun b hb hne => t.2 b (by omega) hne⟩, t.2 k (by omega) q⟩⟩
theorem MC.sureAt (h : MC w cm ln n us C) {a : Nat} (ha : a < n) : ∃ (r : Int) (w' : Wd), X7_sureAt w (iI (a : Nat)) = some (iI r, w') ∧ Fr ScM w w' ∧ FS (goodN C us cm ln n a) ln r := by
  unfold X7_sureAt
  obtain ⟨w1, e1, e2, e3⟩ := h.layCan ha
  rw [e1, ob_s]
  have hn := h.1
  exact h.sureL ha n 0 1000 w1 (by omega) (by omega) (e2.mono (fun _ _ _ q => SHc_m q)) (fun N hN _ => by
    rcases e3 N hN trivial with ⟨g1, g2⟩ | ⟨g1, g2⟩
    · exact Or.inl ⟨g1, g2, fun b hb => by omega⟩
    · exact Or.inr ⟨g1, fun t => g2 t.1⟩)
end SUREM2
/-- the sixth question of about -/
theorem both_sure {w : Wd} {pl cm ln n : Nat} {us pg : Nat → Nat} {C : Nat → Cd} (hR : RelA w pl cm ln n us pg C) {a : Nat} (ha : a < n) : ∃ r w1 w2, X6_firstSure w (iI (a : Nat)) = some (r, w1) ∧ X7_sureAt w1 (iI (a : Nat)) = some (r, w2) ∧ RelA w2 pl cm ln n us pg C ∧ w1.2 = w.2 ∧ w2.2 = w.2 ∧ RelA w1 pl cm ln n us pg C := by
  obtain ⟨r, w1, e1, e2, e3⟩ := hR.xc.firstSure ha
  have hR1 := hR.fr (scX_sc (e2.mono (fun _ _ _ q => SO_x q)))
  obtain ⟨s, w2, k1, k2, k3⟩ := hR1.mc.sureAt ha
  exact ⟨iI r, w1, w2, e1, by rw [k1, e3.uniq k3], hR1.fr (scM_sc k2), e2.2, k2.2.trans e2.2, hR1⟩

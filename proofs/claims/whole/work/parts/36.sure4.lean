/-! sure: the reference's hopes. -/
theorem nz_b (b : Bool) : nz (bE b) = bE b := by cases b <;> rfl
theorem m_isState {C : Cd} (hk : cok C) {m : Nat} (hm : m < 5) : X7_isState (iI (C.1 : Nat)) (iI (m : Nat)) = bE (decide (m < ms C)) := by
  have : ∀ k, k < 4 → ∀ m, m < 5 → X7_isState (iI (k : Nat)) (iI (m : Nat)) = bE (decide (m < (if k = 2 then 5 else if k = 0 then 1 else 2))) := by decide
  exact this C.1 hk.1 m hm
def HM (w : Wd) (H : Nat → Bool) : Prop := ∀ m, m < 5 → rd w 12 11 m = bE (H m)
def SHb (g o j : Nat) : Prop := g = 12 ∧ ((o = 0 ∧ j = 13) ∨ o = 11 ∨ o = 12)
section HOPEM
variable {w : Wd} {c : Nat} {C : Cd} {H : Nat → Bool}
theorem SHb_code {w' : Wd} (fr : Fr SHb w w') (h : CodeM w c C) : CodeM w' c C := h.fr (fun o j h1 h2 => fr.1 _ o j (by unfold SHb; omega))
theorem hpU_out {m : Nat} (h : ms C ≤ m) : ∀ u, hpU C H m u = false := by
  intro u
  induction u with
  | zero => rfl
  | succ u ih =>
    have t : trc C m u = none := by unfold trc; rw [if_neg (by omega)]
    unfold hpU; rw [ih, t]; rfl
theorem m_canU (hC : CodeM w c C) (hk : cok C) (hc : c < 4) {m : Nat} (hm : m < 5) (K : Int32 → Int32 → Wd → Option Wd) :
    ∀ d u fuel w1, u + d = 8 → d < fuel → Fr SHb w w1 → HM w1 H → (∀ i, i ≤ m → rd w1 12 12 i = bE (if i < m then hpU C H i 8 else hpU C H m u)) → ∃ w', X7_goBackCan_L16 fuel K (iI (c : Nat)) (iI (m : Nat)) (iI (u : Nat)) w1 = K (iI (c : Nat)) (iI (m : Nat)) w' ∧ Fr SHb w w' ∧ HM w' H ∧ (∀ i, i ≤ m → rd w' 12 12 i = bE (hpU C H i 8)) := by
  have hms := ms_le C
  have fin : ∀ {w1 : Wd} {u : Nat}, hpU C H m u = hpU C H m 8 → (∀ i, i ≤ m → rd w1 12 12 i = bE (if i < m then hpU C H i 8 else hpU C H m u)) → (∀ i, i ≤ m → rd w1 12 12 i = bE (hpU C H i 8)) := by
    intro w1 u he h i hi
    rw [h i hi]
    by_cases q : i < m
    · rw [if_pos q]
    · obtain rfl : i = m := by omega
      rw [if_neg q, he]
  intro d
  induction d with
  | zero =>
    intro u fuel w1 hd hf f1 h1 h2
    obtain ⟨f', rfl⟩ : ∃ f', fuel = f' + 1 := ⟨fuel - 1, by omega⟩
    obtain rfl : u = 8 := by omega
    rw [X7_goBackCan_L16, if_pos (by decide)]
    exact ⟨w1, rfl, f1, h1, fin rfl h2⟩
  | succ d ih =>
    intro u fuel w1 hd hf f1 h1 h2
    obtain ⟨f', rfl⟩ : ∃ f', fuel = f' + 1 := ⟨fuel - 1, by omega⟩
    have hC1 := SHb_code f1 hC
    rw [X7_goBackCan_L16, if_neg (nL (by omega) (by omega) (by omega)), ga_n hc (by decide), hC1.1, m_isState hk hm]
    by_cases hmm : m < ms C
    · rw [decide_eq_true hmm, if_neg (by decide), m_step hC1 hk hc hmm (show u < 8 by omega), bI_s]
      have eU : hpU C H m (u + 1) = (hpU C H m u || (match trc C m u with | none => false | some q => H q.1)) := rfl
      rw [trc_in hmm] at eU
      have f2 : Fr SHb w (wr w1 12 0 13 (sE (tr C m u))) := f1.wr _ ⟨rfl, Or.inl ⟨rfl, rfl⟩⟩
      have a1 : HM (wr w1 12 0 13 (sE (tr C m u))) H := fun i hi => by rw [rd_o (by decide)]; exact h1 i hi
      have a2 : ∀ i, i ≤ m → rd (wr w1 12 0 13 (sE (tr C m u))) 12 12 i = bE (if i < m then hpU C H i 8 else hpU C H m u) := fun i hi => by rw [rd_o (by decide)]; exact h2 i hi
      generalize wr w1 12 0 13 (sE (tr C m u)) = w2 at f2 a1 a2 ⊢
      have am := a2 m (Nat.le_refl _)
      rw [if_neg (by omega)] at am
      have go : ∀ v, v = bE (hpU C H m (u + 1)) → ∃ w', X7_goBackCan_L16 f' K (iI (c : Nat)) (iI (m : Nat)) (iI ((u : Int) + 1)) (wr w2 12 12 m v) = K (iI (c : Nat)) (iI (m : Nat)) w' ∧ Fr SHb w w' ∧ HM w' H ∧ (∀ i, i ≤ m → rd w' 12 12 i = bE (hpU C H i 8)) := by
        intro v hv
        refine ih (u + 1) f' _ (by omega) (by omega) (f2.wr _ ⟨rfl, Or.inr (Or.inr rfl)⟩) (fun i hi => by rw [rd_o (by decide)]; exact a1 i hi) (fun i hi => ?_)
        by_cases q : i = m
        · subst q; rw [rd_eq, if_neg (by omega), hv]
        · rw [rd_j q, a2 i hi, if_pos (by omega), if_pos (by omega)]
      rw [ga_n hm (by decide), am]
      simp only [pa_n hm (show (5 : Nat) < 2147483648 by decide), bnd_e, iI_add]
      cases eh : hpU C H m u with
      | true =>
        rw [if_neg (by decide)]
        exact go _ (by rw [eU, eh]; rfl)
      | false =>
        rw [if_pos (by decide)]
        cases e : tr C m u with
        | none =>
          rw [show oE (Option.map (fun q => q.1) (none : Option (Nat × Nat))) = iI (-1) from rfl, if_pos rfl]
          exact go _ (by rw [eU, eh, e]; rfl)
        | some q =>
          obtain ⟨m', s⟩ := q
          obtain ⟨-, q1, q2⟩ := trc_ok hk (show u < 8 by omega) ((trc_in hmm).trans e)
          rw [show oE (Option.map (fun q => q.1) (some (m', s))) = iI (m' : Nat) from rfl, if_neg (nE (by omega) (by omega) (by omega)), ga_n (by omega) (by decide), a1 m' (by omega)]
          rw [eh, e] at eU
          dsimp only at eU
          cases eH : H m' with
          | true => rw [if_neg (by decide)]; exact go _ (by rw [eU, eH]; rfl)
          | false => rw [if_pos (by decide)]; exact go _ (by rw [eU, eH]; rfl)
    · rw [decide_eq_false hmm, if_pos (by decide)]
      exact ⟨w1, rfl, f1, h1, fin (by rw [hpU_out (by omega), hpU_out (by omega)]) h2⟩
theorem m_canM (hC : CodeM w c C) (hk : cok C) (hc : c < 4) (K : Wd → Option Wd) :
    ∀ d m fuel w1, m + d = 5 → d < fuel → Fr SHb w w1 → HM w1 H → (∀ i, i < m → rd w1 12 12 i = bE (hpU C H i 8)) → ∃ w', X7_goBackCan_L2 fuel K (iI (c : Nat)) (iI (m : Nat)) w1 = K w' ∧ Fr SHb w w' ∧ (∀ i, i < 5 → rd w' 12 12 i = bE (hpU C H i 8)) := by
  intro d
  induction d with
  | zero =>
    intro m fuel w1 hd hf f1 h1 h2
    obtain ⟨f', rfl⟩ : ∃ f', fuel = f' + 1 := ⟨fuel - 1, by omega⟩
    rw [X7_goBackCan_L2, if_pos (yL (by omega) (by omega) (by omega))]
    exact ⟨w1, rfl, f1, fun i hi => h2 i (by omega)⟩
  | succ d ih =>
    intro m fuel w1 hd hf f1 h1 h2
    obtain ⟨f', rfl⟩ : ∃ f', fuel = f' + 1 := ⟨fuel - 1, by omega⟩
    rw [X7_goBackCan_L2, if_neg (nL (by omega) (by omega) (by omega)), pa_n (by omega) (by decide)]
    obtain ⟨w2, e1, e2, e3, e4⟩ := m_canU (w := w) (H := H) hC hk hc (m := m) (by omega) (X7_goBackCan_L86 (X7_goBackCan_L2 f' K)) 8 0 1000 (wr w1 12 12 m (nz (iI 0))) (by omega) (by omega) (f1.wr _ ⟨rfl, Or.inr (Or.inr rfl)⟩) (fun i hi => by rw [rd_o (by decide)]; exact h1 i hi) (fun i hi => by
      by_cases q : i = m
      · subst q; rw [rd_eq, if_neg (by omega)]; rfl
      · rw [rd_j q, h2 i (by omega), if_pos (by omega)])
    rw [show X7_goBackCan_L16 1000 (X7_goBackCan_L86 (X7_goBackCan_L2 f' K)) (iI (c : Nat)) (iI (m : Nat)) (iI 0) (wr w1 12 12 m (nz (iI 0))) = _ from e1]
    unfold X7_goBackCan_L86
    rw [bnd_e, iI_add]
    exact ih (m + 1) f' w2 (by omega) (by omega) e2 e3 (fun i hi => e4 i (by omega))
theorem m_canC {H2 : Nat → Bool} : ∀ d m fuel w1, m + d = 5 → d < fuel → Fr SHb w w1 → (∀ i, i < 5 → rd w1 12 12 i = bE (H2 i)) → (∀ i, i < m → rd w1 12 11 i = bE (H2 i)) → ∃ w', X7_goBackCan_L94 fuel (iI (m : Nat)) w1 = some w' ∧ Fr SHb w w' ∧ HM w' H2 := by
  intro d
  induction d with
  | zero =>
    intro m fuel w1 hd hf f1 h1 h2
    obtain ⟨f', rfl⟩ : ∃ f', fuel = f' + 1 := ⟨fuel - 1, by omega⟩
    rw [X7_goBackCan_L94, if_pos (yL (by omega) (by omega) (by omega))]
    exact ⟨w1, rfl, f1, fun i hi => h2 i (by omega)⟩
  | succ d ih =>
    intro m fuel w1 hd hf f1 h1 h2
    obtain ⟨f', rfl⟩ : ∃ f', fuel = f' + 1 := ⟨fuel - 1, by omega⟩
    rw [X7_goBackCan_L94, if_neg (nL (by omega) (by omega) (by omega)), ga_n (by omega) (by decide), h1 m (by omega), nz_b, pa_n (by omega) (by decide), bnd_e, iI_add]
    exact ih (m + 1) f' _ (by omega) (by omega) (f1.wr _ ⟨rfl, Or.inr (Or.inl rfl)⟩) (fun i hi => by rw [rd_o (by decide)]; exact h1 i hi) (fun i hi => by
      by_cases q : i = m
      · subst q; rw [rd_eq]
      · rw [rd_j q]; exact h2 i (by omega))
theorem m_can (hC : CodeM w c C) (hk : cok C) (hc : c < 4) (h : HM w H) : ∃ w', X7_goBackCan w (iI (c : Nat)) = some w' ∧ Fr SHb w w' ∧ HM w' (fun m => hpU C H m 8) := by
  unfold X7_goBackCan
  obtain ⟨w1, a1, a2, a3⟩ := m_canM (w := w) (H := H) hC hk hc X7_goBackCan_L92 5 0 1000 w (by omega) (by omega) (Fr.rf _ w) h (fun i hi => by omega)
  rw [show X7_goBackCan_L2 1000 X7_goBackCan_L92 (iI (c : Nat)) (iI 0) w = _ from a1]
  unfold X7_goBackCan_L92
  exact m_canC 5 0 1000 w1 (by omega) (by omega) a2 a3 (fun i hi => by omega)
theorem m_can0 (K : Int32 → Wd → Option Wd) (v : Int32) : ∀ d m fuel w1, m + d = 5 → d < fuel → Fr SHb w w1 → (∀ i, i < m → rd w1 12 11 i = bE (hp C 0 i)) → ∃ w', X7_layCan_L2 fuel K v (iI (m : Nat)) w1 = K v w' ∧ Fr SHb w w' ∧ HM w' (hp C 0) := by
  intro d
  induction d with
  | zero =>
    intro m fuel w1 hd hf f1 h2
    obtain ⟨f', rfl⟩ : ∃ f', fuel = f' + 1 := ⟨fuel - 1, by omega⟩
    rw [X7_layCan_L2, if_pos (yL (by omega) (by omega) (by omega))]
    exact ⟨w1, rfl, f1, fun i hi => h2 i (by omega)⟩
  | succ d ih =>
    intro m fuel w1 hd hf f1 h2
    obtain ⟨f', rfl⟩ : ∃ f', fuel = f' + 1 := ⟨fuel - 1, by omega⟩
    rw [X7_layCan_L2, if_neg (nL (by omega) (by omega) (by omega))]
    simp only [pa_n (show m < 5 by omega) (show (5 : Nat) < 2147483648 by decide), bnd_e, iI_add]
    have go : ∀ x, x = bE (hp C 0 m) → ∃ w', X7_layCan_L2 f' K v (iI ((m : Int) + 1)) (wr w1 12 11 m x) = K v w' ∧ Fr SHb w w' ∧ HM w' (hp C 0) := by
      intro x hx
      exact ih (m + 1) f' _ (by omega) (by omega) (f1.wr _ ⟨rfl, Or.inr (Or.inl rfl)⟩) (fun i hi => by
        by_cases q : i = m
        · subst q; rw [rd_eq, hx]
        · rw [rd_j q]; exact h2 i (by omega))
    by_cases q : m = 0
    · rw [if_pos (yE0 (by omega))]
      exact go _ (by show nz (iI 1) = bE (decide (m = 0)); rw [decide_eq_true q]; rfl)
    · rw [if_neg (nE0 (by omega) (by omega))]
      exact go _ (by show nz (iI 0) = bE (decide (m = 0)); rw [decide_eq_false q]; rfl)
end HOPEM
def SHc (g o j : Nat) : Prop := g = 12 ∧ ((o = 0 ∧ 13 ≤ j ∧ j ≤ 18) ∨ o = 7 ∨ o = 10 ∨ o = 11 ∨ o = 12)
theorem SHb_c {g o j : Nat} (h : SHb g o j) : SHc g o j := by unfold SHb at h; unfold SHc; omega
theorem SRun_c {g o j : Nat} (h : SRun g o j) : SHc g o j := by unfold SRun at h; unfold SHc; omega
theorem SHc_m {g o j : Nat} (h : SHc g o j) : ScM g o j := by unfold SHc at h; unfold ScM; omega
def CanM (w : Wd) (cm : Nat) (P : Nat → Prop) (G : Nat → Prop) : Prop := ∀ N, N ≤ cm → P N → (rd w 12 10 N = iI 1 ∧ G N) ∨ (rd w 12 10 N = iI 0 ∧ ¬ G N)
section SUREM
variable {w : Wd} {cm ln n : Nat} {us : Nat → Nat} {C : Nat → Cd}
theorem m_layCanL (h : MC w cm ln n us C) {a : Nat} (ha : a < n) :
    ∀ d k fuel w1, k + d = ln + 1 → d < fuel → Fr SHc w w1 → HM w1 (hp (C a) k) → CanM w1 cm (fun N => ln < N + k) (hope (C a) us cm ln) → ∃ w', X7_layCan_L30 fuel (iI (a : Nat)) (iI (k : Nat)) w1 = some w' ∧ Fr SHc w w' ∧ CanM w' cm (fun _ => True) (hope (C a) us cm ln) := by
  obtain ⟨h1, h2, h3, h4, h5, h6, h7, h8, h9⟩ := id h
  obtain ⟨ka, xa⟩ := h9 a ha
  have hma := ms_le (C a)
  intro d
  induction d with
  | zero =>
    intro k fuel w1 hd hf f1 hH hG
    obtain ⟨f', rfl⟩ : ∃ f', fuel = f' + 1 := ⟨fuel - 1, by omega⟩
    have hw1 := h.fr (f1.mono (fun _ _ _ q => SHc_m q))
    rw [X7_layCan_L30, hw1.2.2.2.2.2.2.1, if_pos (yT (by omega) (by omega) (by omega))]
    exact ⟨w1, rfl, f1, fun N hN _ => hG N hN (show ln < N + k by omega)⟩
  | succ d ih =>
    intro k fuel w1 hd hf f1 hH hG
    obtain ⟨f', rfl⟩ : ∃ f', fuel = f' + 1 := ⟨fuel - 1, by omega⟩
    have hw1 := h.fr (f1.mono (fun _ _ _ q => SHc_m q))
    generalize hN0 : ln - k = N0
    have hNi : (ln : Int) - (k : Nat) = (N0 : Nat) := by omega
    rw [X7_layCan_L30, hw1.2.2.2.2.2.2.1, hw1.2.2.2.2.2.1, if_neg (nT (by omega) (by omega) (by omega)), iI_sub, bnd_e, hNi]
    -- one unit more
    have go : ∀ w2, Fr SHc w1 w2 → HM w2 (hp (C a) k) → CanM w2 cm (fun N => ln < N + (k + 1)) (hope (C a) us cm ln) → ∃ w', (ob (X7_goBackCan w2 (iI (a : Nat))) fun w_6 => bnd (iI (k : Nat) + iI 1) fun x_7 => X7_layCan_L30 f' (iI (a : Nat)) x_7 w_6) = some w' ∧ Fr SHc w w' ∧ CanM w' cm (fun _ => True) (hope (C a) us cm ln) := by
      intro w2 f2 hH2 hG2
      have cM : CodeM w2 a (C a) := ((h.fr ((f1.tr f2).mono (fun _ _ _ q => SHc_m q))).2.2.2.2.2.2.2.2 a ha).2
      obtain ⟨w3, e1, e2, e3⟩ := m_can cM ka (by omega) hH2
      rw [e1, ob_s, bnd_e, iI_add]
      refine ih (k + 1) f' w3 (by omega) (by omega) ((f1.tr f2).tr (e2.mono (fun _ _ _ q => SHb_c q))) e3 (fun N hN hP => ?_)
      rw [e2.1 12 10 N (by unfold SHb; omega)]
      exact hG2 N hN hP
    by_cases q : cm < N0
    · rw [if_pos (yT (by omega) (by omega) (by omega))]
      exact go w1 (Fr.rf _ w1) hH (fun N hN hP => hG N hN (show ln < N + k by have : ln < N + (k + 1) := hP; omega))
    · rw [if_neg (nT (by omega) (by omega) (by omega))]
      obtain ⟨w2, e1, e2, e3⟩ := m_goAlong (w := w1) (c := a) (hw1.2.2.2.2.2.2.2.2 a ha).2 ka (by omega) (us := us) (many := N0) (by omega) (fun j hj => hw1.2.2.2.2.2.2.2.1 j (by omega))
      rw [e1, ob_s, e2.1]
      have f2 : Fr SHc w1 w2 := e3.mono (fun _ _ _ q => SRun_c q)
      have hH2 : HM w2 (hp (C a) k) := fun i hi => by rw [e3.1 _ _ _ (by unfold SRun; omega)]; exact hH i hi
      have hpl : (rn (C a) us N0).2.2.1 < 3 * ms (C a) := rnF_pl ka (us := us) (f := 0) N0 (fun j hj => by rw [Nat.zero_add]; exact (h8 j (by omega)).1)
      simp only [pa_n (show N0 < 41 by omega) (show (41 : Nat) < 2147483648 by decide)]
      have put : ∀ v, ((v = iI 1 ∧ hope (C a) us cm ln N0) ∨ (v = iI 0 ∧ ¬ hope (C a) us cm ln N0)) → ∃ w', (ob (X7_goBackCan (wr w2 12 10 N0 v) (iI (a : Nat))) fun w_6 => bnd (iI (k : Nat) + iI 1) fun x_7 => X7_layCan_L30 f' (iI (a : Nat)) x_7 w_6) = some w' ∧ Fr SHc w w' ∧ CanM w' cm (fun _ => True) (hope (C a) us cm ln) := by
        intro v hv
        refine go _ (f2.wr _ (by unfold SHc; omega)) (fun i hi => by rw [rd_o (by decide)]; exact hH2 i hi) (fun N hN hP => ?_)
        by_cases z : N = N0
        · rw [z, rd_eq]; exact hv
        · rw [rd_j z, e3.1 _ _ _ (by unfold SRun; omega)]
          have : ln < N + (k + 1) := hP
          exact hG N hN (show ln < N + k by omega)
      have hk' : ln - N0 = k := by omega
      cases ea : (rn (C a) us N0).1 with
      | false =>
        rw [if_neg (show ¬ false = true by decide), if_pos rfl]
        refine put _ (Or.inr ⟨rfl, fun hh => ?_⟩)
        obtain ⟨p, p1, -⟩ := hh
        unfold stt at p1
        rw [if_neg (fun z => by rw [ea] at z; exact absurd z.2 (by decide))] at p1
        cases p1
      | true =>
        have hst : stt (C a) us cm N0 = some (rn (C a) us N0).2.2.1 := by unfold stt; rw [if_pos ⟨by omega, ea⟩]
        rw [if_pos rfl, if_neg (nE (by omega) (by omega) (by omega)), ga_n (by omega) (by decide), hH2 _ (by omega)]
        cases eH : hp (C a) k ((rn (C a) us N0).2.2.1 / 3) with
        | true =>
          rw [if_neg (by decide)]
          exact put _ (Or.inl ⟨rfl, _, hst, by rw [hk']; exact eH⟩)
        | false =>
          rw [if_pos (by decide)]
          refine put _ (Or.inr ⟨rfl, fun hh => ?_⟩)
          obtain ⟨p, p1, p2⟩ := hh
          rw [hst] at p1
          cases p1
          rw [hk', eH] at p2
          cases p2
theorem MC.layCan (h : MC w cm ln n us C) {a : Nat} (ha : a < n) : ∃ w', X7_layCan w (iI (a : Nat)) = some w' ∧ Fr SHc w w' ∧ CanM w' cm (fun _ => True) (hope (C a) us cm ln) := by
  obtain ⟨h1, h2, h3, h4, h5, h6, h7, h8, h9⟩ := id h
  unfold X7_layCan
  obtain ⟨w1, e1, e2, e3⟩ := m_can0 (w := w) (C := C a) X7_layCan_L28 (iI (a : Nat)) 5 0 1000 w (by omega) (by omega) (Fr.rf _ w) (fun i hi => by omega)
  rw [show X7_layCan_L2 1000 X7_layCan_L28 (iI (a : Nat)) (iI 0) w = _ from e1]
  unfold X7_layCan_L28
  exact m_layCanL h ha (ln + 1) 0 1000 w1 (by omega) (by omega) (e2.mono (fun _ _ _ q => SHb_c q)) e3 (fun N hN hP => by have : ln < N + 0 := hP; omega)
end SUREM

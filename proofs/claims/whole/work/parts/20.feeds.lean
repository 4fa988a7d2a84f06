/-! feeds and back. -/
def allU (pl : Nat) (pg : Nat → Nat) : Prop := ∀ j, j < pl → 48 ≤ pg j ∧ pg j ≤ 55
theorem x_feedsCheck {w : Wd} {pl : Nat} {pg : Nat → Nat} (K : Wd → Option (Int32 × Wd)) (h40 : pl ≤ 40) (hp : rd w 0 0 1 = iI (pl : Nat)) (hg : ∀ j, j < pl → pg j < 127 ∧ rd w 0 1 j = iI (pg j : Nat)) :
    ∀ d k fuel, k + d = pl → d < fuel → (∀ j, j < k → 48 ≤ pg j ∧ pg j ≤ 55) → (allU pl pg → X6_feeds_L2 fuel K (iI (k : Nat)) w = K w) ∧ (¬ allU pl pg → X6_feeds_L2 fuel K (iI (k : Nat)) w = some (iI (-103), w)) := by
  intro d
  induction d with
  | zero =>
    intro k fuel hd hf hk
    obtain ⟨f, rfl⟩ : ∃ f, fuel = f + 1 := ⟨fuel - 1, by omega⟩
    obtain rfl : k = pl := by omega
    rw [X6_feeds_L2, hp, if_pos (yL (by omega) (by omega) (by omega))]
    exact ⟨fun _ => rfl, fun h => absurd hk h⟩
  | succ d ih =>
    intro k fuel hd hf hk
    obtain ⟨f, rfl⟩ : ∃ f, fuel = f + 1 := ⟨fuel - 1, by omega⟩
    have := hg k (by omega)
    rw [X6_feeds_L2, hp, if_neg (nL (by omega) (by omega) (by omega)), ga_n (by omega) (by decide), this.2, iI_sub, bnd_e, iI_add]
    by_cases ok : 48 ≤ pg k ∧ pg k ≤ 55
    · rw [show ((pg k : Int) - 48) = ((pg k - 48 : Nat) : Int) by omega, isUnit_in (by omega), if_neg n10]
      exact ih (k + 1) f (by omega) (by omega) (fun j hj => by
        by_cases e : j = k
        · subst e; exact ok
        · exact hk j (by omega))
    · rw [if_pos (isUnit_out (by omega) (by omega))]
      exact ⟨fun h => absurd (h k (by omega)) ok, fun _ => rfl⟩
theorem m_feedsZero {w : Wd} {pl : Nat} (K : Int32 → Wd → Option (Int32 × Wd)) (h40 : pl ≤ 40) (hp : rd w 12 0 10 = iI (pl : Nat)) : ∀ d k fuel, k + d = pl → d < fuel → X7_feeds_L4 fuel K (iI 0) (iI (k : Nat)) w = K (iI 0) w := by
  intro d
  induction d with
  | zero =>
    intro k fuel hd hf
    obtain ⟨f, rfl⟩ : ∃ f, fuel = f + 1 := ⟨fuel - 1, by omega⟩
    rw [X7_feeds_L4, hp, if_pos (yL (by omega) (by omega) (by omega))]
  | succ d ih =>
    intro k fuel hd hf
    obtain ⟨f, rfl⟩ : ∃ f, fuel = f + 1 := ⟨fuel - 1, by omega⟩
    rw [X7_feeds_L4, hp, if_neg (nL (by omega) (by omega) (by omega)), if_pos (yE0 rfl), bnd_e, iI_add]
    exact ih (k + 1) f (by omega) (by omega)
theorem m_feedsCheck {w : Wd} {pl : Nat} {pg : Nat → Nat} (K : Int32 → Wd → Option (Int32 × Wd)) (h40 : pl ≤ 40) (hp : rd w 12 0 10 = iI (pl : Nat)) (hg : ∀ j, j < pl → pg j < 127 ∧ rd w 12 6 j = iI (pg j : Nat)) :
    ∀ d k fuel, k + d = pl → d < fuel → (∀ j, j < k → 48 ≤ pg j ∧ pg j ≤ 55) → (allU pl pg → X7_feeds_L4 fuel K (iI 1) (iI (k : Nat)) w = K (iI 1) w) ∧ (¬ allU pl pg → X7_feeds_L4 fuel K (iI 1) (iI (k : Nat)) w = K (iI 0) w) := by
  intro d
  induction d with
  | zero =>
    intro k fuel hd hf hk
    obtain ⟨f, rfl⟩ : ∃ f, fuel = f + 1 := ⟨fuel - 1, by omega⟩
    obtain rfl : k = pl := by omega
    rw [X7_feeds_L4, hp, if_pos (yL (by omega) (by omega) (by omega))]
    exact ⟨fun _ => rfl, fun h => absurd hk h⟩
  | succ d ih =>
    intro k fuel hd hf hk
    obtain ⟨f, rfl⟩ : ∃ f, fuel = f + 1 := ⟨fuel - 1, by omega⟩
    have := hg k (by omega)
    have wi := wi_iff (a := (pg k : Int)) (b := 48) (c := 55) (by omega) (by decide) (by decide)
    rw [X7_feeds_L4, hp, if_neg (nL (by omega) (by omega) (by omega)), if_neg n10, ga_n (by omega) (by decide), this.2, bnd_e, bnd_e, iI_add]
    by_cases ok : 48 ≤ pg k ∧ pg k ≤ 55
    · rw [if_neg (fun q => wi.mp q (by omega))]
      exact ih (k + 1) f (by omega) (by omega) (fun j hj => by
        by_cases e : j = k
        · subst e; exact ok
        · exact hk j (by omega))
    · rw [if_pos (wi.mpr (by omega))]
      exact ⟨fun h => absurd (h k (by omega)) ok, fun _ => m_feedsZero K h40 hp d (k + 1) f (by omega) (by omega)⟩
theorem x_feedsLoop {w : Wd} {pl cm : Nat} {pg : Nat → Nat} (K : Wd → Option (Int32 × Wd)) (h40 : cm + pl ≤ 40) (hp : rd w 0 0 1 = iI (pl : Nat)) (hg : ∀ j, j < pl → rd w 0 1 j = iI (pg j : Nat)) (hu : allU pl pg) :
    ∀ d k fuel w1, k + d = pl → d < fuel → UX w w1 cm (fun j => pg j - 48) k → ∃ w2, X6_feeds_L55 fuel K (iI (k : Nat)) w1 = K w2 ∧ UX w w2 cm (fun j => pg j - 48) pl := by
  intro d
  induction d with
  | zero =>
    intro k fuel w1 hd hf h1
    obtain ⟨f, rfl⟩ : ∃ f, fuel = f + 1 := ⟨fuel - 1, by omega⟩
    obtain rfl : k = pl := by omega
    rw [X6_feeds_L55, h1.1 0 0 1 (by omega), hp, if_pos (yL (by omega) (by omega) (by omega))]
    exact ⟨w1, rfl, h1⟩
  | succ d ih =>
    intro k fuel w1 hd hf h1
    obtain ⟨f, rfl⟩ : ∃ f, fuel = f + 1 := ⟨fuel - 1, by omega⟩
    have := hu k (by omega)
    obtain ⟨w2, e1, e2⟩ := h1.step (by omega)
    rw [X6_feeds_L55, h1.1 0 0 1 (by omega), hp, if_neg (nL (by omega) (by omega) (by omega)), ga_n (by omega) (by decide), h1.1 0 1 k (by omega), hg k (by omega), iI_sub, show ((pg k : Int) - 48) = ((pg k - 48 : Nat) : Int) by omega, e1, ob_s, bnd_e, iI_add]
    exact ih (k + 1) f w2 (by omega) (by omega) e2
theorem m_feedsLoop {w : Wd} {pl cm : Nat} {pg : Nat → Nat} (h40 : cm + pl ≤ 40) (hp : rd w 12 0 10 = iI (pl : Nat)) (hg : ∀ j, j < pl → rd w 12 6 j = iI (pg j : Nat)) (hu : allU pl pg) :
    ∀ d k fuel w1, k + d = pl → d < fuel → UM w w1 cm (fun j => pg j - 48) k → ∃ w2, X7_feeds_L72 fuel (iI (k : Nat)) w1 = some (rd (wr w2 12 0 10 (iI 0)) 12 0 8, wr w2 12 0 10 (iI 0)) ∧ UM w w2 cm (fun j => pg j - 48) pl := by
  intro d
  induction d with
  | zero =>
    intro k fuel w1 hd hf h1
    obtain ⟨f, rfl⟩ : ∃ f, fuel = f + 1 := ⟨fuel - 1, by omega⟩
    obtain rfl : k = pl := by omega
    rw [X7_feeds_L72, h1.1 12 0 10 (by omega), hp, if_pos (yL (by omega) (by omega) (by omega)), bnd_e]
    exact ⟨w1, rfl, h1⟩
  | succ d ih =>
    intro k fuel w1 hd hf h1
    obtain ⟨f, rfl⟩ : ∃ f, fuel = f + 1 := ⟨fuel - 1, by omega⟩
    have := hu k (by omega)
    obtain ⟨w2, e1, e2⟩ := h1.step (by omega)
    rw [X7_feeds_L72, h1.1 12 0 10 (by omega), hp, if_neg (nL (by omega) (by omega) (by omega)), ga_n (by omega) (by decide), h1.1 12 6 k (by omega), hg k (by omega), iI_sub, show ((pg k : Int) - 48) = ((pg k - 48 : Nat) : Int) by omega, e1, ob_s, bnd_e, iI_add]
    exact ih (k + 1) f w2 (by omega) (by omega) e2
theorem op_feeds {w : Wd} (h : Rel w) : ∃ r w1 w2, X6_feeds w = some (r, w1) ∧ X7_feeds w1 = some (r, w2) ∧ Rel w2 := by
  obtain ⟨pl, cm, ln, n, us, pg, C, hR⟩ := id h
  obtain ⟨p1, p2, p3, p4⟩ := hR.1
  obtain ⟨u1, u2, u3, u4, u5, u6, u7, u8⟩ := hR.2.1
  have cx := x_feedsCheck (w := w) (pg := pg) X6_feeds_L34 p1 p2 (fun j hj => ⟨(p4 j hj).2.1, (p4 j hj).2.2.1⟩) pl 0 1000 (by omega) (by omega) (fun j hj => by omega)
  unfold X6_feeds X7_feeds
  by_cases hall : allU pl pg
  · rw [show (iI 0 : Int32) = iI ((0 : Nat) : Int) from rfl, cx.1 hall]
    unfold X6_feeds_L34
    rw [p2, u6, u4, iI_sub]
    by_cases full : pl + cm ≤ ln
    · rw [if_pos (yL (by omega) (by omega) (by omega)), show (iI 0 : Int32) = iI ((0 : Nat) : Int) from rfl]
      obtain ⟨wX, x1, x2⟩ := x_feedsLoop (w := w) (cm := cm) X6_feeds_L82 (by omega) p2 (fun j hj => (p4 j hj).2.2.1) hall pl 0 1000 w (by omega) (by omega) (UX.rf u4)
      rw [x1]
      unfold X6_feeds_L82
      rw [bnd_e]
      have hv : ∀ j, j < pl → (fun j => pg j - 48) j < 8 := fun j hj => by have := hall j hj; show pg j - 48 < 8; omega
      obtain ⟨w1, e1, e2⟩ := readAgain_some (wY := wr wX 0 0 1 (iI 0)) hR (show cm + pl ≤ ln by omega) hv x2 (fun g o j hn => rd_ne hn)
      have f1 : ∀ o j, rd w1 12 o j = rd w 12 o j := fun o j => by rw [e2.1 12 o j (by unfold SReads; omega), rd_g (by decide), x2.1 12 o j (by omega)]
      obtain ⟨wZ, y1, y2⟩ := m_feedsLoop (w := w1) (cm := cm) (pg := pg) (pl := pl) (by omega) (by rw [f1]; exact p3) (fun j hj => by rw [f1]; exact (p4 j hj).2.2.2) hall pl 0 1000 w1 (by omega) (by omega) (UM.rf (by rw [f1]; exact u5))
      obtain ⟨r1, r2, r3⟩ := Rel_come hR (show cm + pl ≤ ln by omega) hv true x2 rfl e1 y2 rfl
      have cm2 := m_feedsCheck (w := w1) (pg := pg) X7_feeds_L44 p1 (by rw [f1]; exact p3) (fun j hj => ⟨(p4 j hj).2.1, by rw [f1]; exact (p4 j hj).2.2.2⟩) pl 0 1000 (by omega) (by omega) (fun j hj => by omega)
      refine ⟨iI ((cm + pl : Nat) : Int), w1, _, by rw [e1, ob_s, r1], ?_, _, _, _, _, _, _, _, r3⟩
      rw [show (iI 0 : Int32) = iI ((0 : Nat) : Int) from rfl, cm2.1 hall]
      unfold X7_feeds_L44
      rw [if_neg n10, f1, f1, f1, u5, p3, u7, iI_add, if_pos (yL (by omega) (by omega) (by omega)), show (iI 0 : Int32) = iI ((0 : Nat) : Int) from rfl, y1]
      rw [if_pos rfl] at r2 ⊢
      rw [r2]
      rfl
    · refine ⟨iI (-104), w, w, by rw [if_neg (nL (by omega) (by omega) (by omega))], ?_, h⟩
      have cm2 := m_feedsCheck (w := w) (pg := pg) X7_feeds_L44 p1 p3 (fun j hj => ⟨(p4 j hj).2.1, (p4 j hj).2.2.2⟩) pl 0 1000 (by omega) (by omega) (fun j hj => by omega)
      rw [cm2.1 hall]
      unfold X7_feeds_L44
      rw [if_neg n10, u5, p3, u7, iI_add, if_neg (nL (by omega) (by omega) (by omega))]
  · rw [show (iI 0 : Int32) = iI ((0 : Nat) : Int) from rfl, cx.2 hall]
    refine ⟨_, w, w, rfl, ?_, h⟩
    have cm2 := m_feedsCheck (w := w) (pg := pg) X7_feeds_L44 p1 p3 (fun j hj => ⟨(p4 j hj).2.1, (p4 j hj).2.2.2⟩) pl 0 1000 (by omega) (by omega) (fun j hj => by omega)
    rw [cm2.2 hall]
    unfold X7_feeds_L44
    rw [if_pos (yE0 rfl)]
theorem op_back {w : Wd} (h : Rel w) : ∃ r w1 w2, X6_back w = some (r, w1) ∧ X7_back w1 = some (r, w2) ∧ Rel w2 := by
  obtain ⟨pl, cm, ln, n, us, pg, C, hR⟩ := id h
  obtain ⟨u1, u2, u3, u4, u5, u6, u7, u8⟩ := hR.2.1
  obtain ⟨c1, c2, c3, c4⟩ := hR.2.2.2.1
  unfold X6_back X7_back
  by_cases h0 : cm = 0
  · refine ⟨iI (-103), w, w, ?_, ?_, h⟩
    · rw [u4, if_neg (n0T (by omega) (by omega))]
    · rw [u5, if_pos (yE0 (by omega))]
  · obtain ⟨k, rfl⟩ : ∃ k, cm = k + 1 := ⟨cm - 1, by omega⟩
    rw [u4, if_pos (y0T (by omega) (by omega)), iI_sub, show (((k + 1 : Nat) : Int) - 1) = (k : Int) by omega, bnd_e]
    generalize hwA : wr w 0 0 3 (iI (k : Nat)) = wA
    have fA : ∀ g o j, ¬ (g = 0 ∧ o = 0 ∧ j = 3) → rd wA g o j = rd w g o j := fun g o j hn => by rw [← hwA, rd_ne hn]
    have hA3 : rd wA 0 0 3 = iI (k : Nat) := by rw [← hwA, rd_eq]
    have hA2 : wA.2 = w.2 := by rw [← hwA]; rfl
    obtain ⟨w1, e1, e2, e3⟩ := x_readAgain (w := wA) (n := n) (C := C) (us := us) (cm := k) c1 (by rw [fA 0 0 7 (by omega)]; exact c2) (fun c hc => ⟨(c4 c hc).1, (c4 c hc).2.1.fr (fun o j _ => fA _ o j (by omega))⟩) (by omega) hA3 (fun j hj => ⟨(u8 j (by omega)).1, by rw [fA 0 2 j (by omega)]; exact (u8 j (by omega)).2.1⟩)
    have f1 : ∀ g o j, ¬ SReads g o j → ¬ (g = 0 ∧ o = 0 ∧ j = 3) → rd w1 g o j = rd w g o j := fun g o j h1 h2 => by rw [e2.1 g o j h1, fA g o j h2]
    refine ⟨iI (k : Nat), w1, wr w1 12 0 8 (iI (k : Nat)), ?_, ?_, ?_⟩
    · rw [e1, ob_s, e2.1 0 0 3 (by unfold SReads; omega), hA3]
    · rw [f1 12 0 8 (by unfold SReads; omega) (by omega), u5, if_neg (nE0 (by omega) (by omega)), iI_sub, show (((k + 1 : Nat) : Int) - 1) = (k : Int) by omega, bnd_e, rd_eq]
    · generalize hw2 : wr w1 12 0 8 (iI (k : Nat)) = w2
      have f2 : ∀ g o j, ¬ (g = 12 ∧ o = 0 ∧ j = 8) → rd w2 g o j = rd w1 g o j := fun g o j hn => by rw [← hw2, rd_ne hn]
      have fr2 : Fr SU w w2 := ⟨fun g o j hn => by
        unfold SU SUx SUm SReads at hn
        rw [f2 g o j (by omega), f1 g o j (by unfold SReads; omega) (by omega)], by rw [← hw2]; show w1.2 = w.2; rw [e2.2, hA2]⟩
      have f3 : ∀ g o j, ¬ SReads g o j → ¬ (g = 0 ∧ o = 0 ∧ j = 3) → ¬ (g = 12 ∧ o = 0 ∧ j = 8) → rd w2 g o j = rd w g o j := fun g o j h1 h2 h3 => by rw [f2 g o j h3, f1 g o j h1 h2]
      refine ⟨pl, k, ln, n, us, pg, C, hR.up fr2 (hR.1.fr ?_ ?_ (fun j => ?_) (fun j => ?_)) ⟨by omega, by omega, by omega, ?_, ?_, ?_, ?_, fun j hj => ⟨(u8 j (by omega)).1, ?_, ?_⟩⟩ ⟨?_, ?_⟩ (fun c hc => ?_)⟩
      · exact f3 0 0 1 (by unfold SReads; omega) (by omega) (by omega)
      · exact f3 12 0 10 (by unfold SReads; omega) (by omega) (by omega)
      · exact f3 0 1 j (by unfold SReads; omega) (by omega) (by omega)
      · exact f3 12 6 j (by unfold SReads; omega) (by omega) (by omega)
      · rw [f2 0 0 3 (by omega), e2.1 0 0 3 (by unfold SReads; omega)]; exact hA3
      · rw [← hw2, rd_eq]
      · rw [f3 0 0 4 (by unfold SReads; omega) (by omega) (by omega)]; exact u6
      · rw [f3 12 0 7 (by unfold SReads; omega) (by omega) (by omega)]; exact u7
      · rw [f3 0 2 j (by unfold SReads; omega) (by omega) (by omega)]; exact (u8 j (by omega)).2.1
      · rw [f3 12 5 j (by unfold SReads; omega) (by omega) (by omega)]; exact (u8 j (by omega)).2.2
      · rw [f3 0 0 8 (by unfold SReads; omega) (by omega) (by omega), f3 12 0 5 (by unfold SReads; omega) (by omega) (by omega)]; exact hR.2.2.1.1
      · rw [f3 0 0 9 (by unfold SReads; omega) (by omega) (by omega), f3 12 0 6 (by unfold SReads; omega) (by omega) (by omega)]; exact hR.2.2.1.2
      · exact (e3 c hc).fr (fun o j => f2 _ o j (by omega))

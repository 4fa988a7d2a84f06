/-! Units come and go: open, feed, feeds, back. -/
def SReads (g _o _j : Nat) : Prop := 5 ≤ g ∧ g ≤ 8
theorem x_readAgainL {w : Wd} {n : Nat} {C : Nat → Cd} {us : Nat → Nat} {cm : Nat} (hn : n ≤ 4) (h7 : rd w 0 0 7 = iI (n : Nat)) (hC : ∀ c, c < n → cok (C c) ∧ CodeX w (c + 1) (C c)) (hcm : cm ≤ 40) (h3 : rd w 0 0 3 = iI (cm : Nat)) (hu : ∀ j, j < cm → us j < 8 ∧ rd w 0 2 j = iI (us j : Nat)) :
    ∀ d k fuel w1, k + d = n → d < fuel → Fr SReads w w1 → (∀ c, c < k → ReadX w1 (c + 5) (C c) us cm) → ∃ w', X6_readAgain_L2 fuel (iI (k : Nat)) w1 = some w' ∧ Fr SReads w w' ∧ ∀ c, c < n → ReadX w' (c + 5) (C c) us cm := by
  intro d
  induction d with
  | zero =>
    intro k fuel w1 hd hf h1 h2
    obtain ⟨f, rfl⟩ : ∃ f, fuel = f + 1 := ⟨fuel - 1, by omega⟩
    rw [X6_readAgain_L2, h1.1 0 0 7 (by unfold SReads; omega), h7, if_pos (yL (by omega) (by omega) (by omega))]
    exact ⟨w1, rfl, h1, fun c hc => h2 c (by omega)⟩
  | succ d ih =>
    intro k fuel w1 hd hf h1 h2
    obtain ⟨f, rfl⟩ : ∃ f, fuel = f + 1 := ⟨fuel - 1, by omega⟩
    rw [X6_readAgain_L2, h1.1 0 0 7 (by unfold SReads; omega), h7, if_neg (nL (by omega) (by omega) (by omega)), ix_n (by omega) (by decide), h1.1 0 0 3 (by unfold SReads; omega), h3]
    have hck := hC k (by omega)
    obtain ⟨w2, e1, e2, e3⟩ := x_follow (w := w1) (g := k + 5) (C := C k) (us := us) (cm := cm) (by rw [show k + 5 - 4 = k + 1 by omega]; exact hck.2.fr (fun o j _ => h1.1 _ o j (by unfold SReads; omega))) hck.1 (by omega) hcm (fun j hj => ⟨(hu j hj).1, by rw [h1.1 0 2 j (by unfold SReads; omega)]; exact (hu j hj).2⟩)
    rw [e1, ob_s, bnd_e, iI_add]
    have e2' : Fr SReads w1 w2 := e2.mono (fun g o j h => by unfold SG at h; unfold SReads; omega)
    refine ih (k + 1) f w2 (by omega) (by omega) (h1.tr e2') (fun c hc => ?_)
    by_cases hck2 : c = k
    · subst hck2; exact e3
    · exact (h2 c (by omega)).fr (fun o j => e2.1 _ o j (by unfold SG; omega))
theorem x_readAgain {w : Wd} {n : Nat} {C : Nat → Cd} {us : Nat → Nat} {cm : Nat} (hn : n ≤ 4) (h7 : rd w 0 0 7 = iI (n : Nat)) (hC : ∀ c, c < n → cok (C c) ∧ CodeX w (c + 1) (C c)) (hcm : cm ≤ 40) (h3 : rd w 0 0 3 = iI (cm : Nat)) (hu : ∀ j, j < cm → us j < 8 ∧ rd w 0 2 j = iI (us j : Nat)) :
    ∃ w', X6_readAgain w = some w' ∧ Fr SReads w w' ∧ ReadsR w' n C us cm := by
  unfold X6_readAgain
  exact x_readAgainL hn h7 hC hcm h3 hu n 0 1000 w (by omega) (by omega) (Fr.rf _ w) (fun c hc => by omega)
def SUx (g o j : Nat) : Prop := g = 0 ∧ ((o = 0 ∧ (j = 3 ∨ j = 4 ∨ j = 9 ∨ j = 1)) ∨ o = 2)
def SUm (g o j : Nat) : Prop := g = 12 ∧ ((o = 0 ∧ (j = 6 ∨ j = 7 ∨ j = 8 ∨ j = 10)) ∨ o = 5)
def SU (g o j : Nat) : Prop := SUx g o j ∨ SUm g o j ∨ SReads g o j
theorem RelA.up {w w' : Wd} {pl cm ln n pl' cm' ln' : Nat} {us pg us' pg' : Nat → Nat} {C : Nat → Cd} (h : RelA w pl cm ln n us pg C) (f : Fr SU w w') (hp : PageR w' pl' pg') (hu : UnitR w' cm' ln' us') (he : EverR w') (hr : ReadsR w' n C us' cm') : RelA w' pl' cm' ln' n us' pg' C := by
  obtain ⟨-, -, h3, h4, -⟩ := h
  refine ⟨hp, hu, he, ?_, hr⟩
  obtain ⟨a1, a2, a3, a4⟩ := h4
  refine ⟨a1, by rw [f.1 0 0 7 (by unfold SU SUx SUm SReads; omega)]; exact a2, by rw [f.1 12 0 0 (by unfold SU SUx SUm SReads; omega)]; exact a3, fun c hc => ?_⟩
  obtain ⟨b1, b2, b3⟩ := a4 c hc
  exact ⟨b1, b2.fr (fun o j ho => f.1 _ o j (by unfold SU SUx SUm SReads; omega)), b3.fr (fun o j h1 h2 => f.1 _ o j (by unfold SU SUx SUm SReads; omega))⟩
/-- the page stays -/
theorem PageR.fr {w w' : Wd} {pl : Nat} {pg : Nat → Nat} (h : PageR w pl pg) (e1 : rd w' 0 0 1 = rd w 0 0 1) (e2 : rd w' 12 0 10 = rd w 12 0 10) (e3 : ∀ j, rd w' 0 1 j = rd w 0 1 j) (e4 : ∀ j, rd w' 12 6 j = rd w 12 6 j) : PageR w' pl pg := by
  unfold PageR at h ⊢
  simp only [e1, e2, e3, e4]
  exact h
theorem op_open {w : Wd} (h : Rel w) (a : Int32) : ∃ r w1 w2, X6_open w a = some (r, w1) ∧ X7_open w1 a = some (r, w2) ∧ Rel w2 := by
  obtain ⟨pl, cm, ln, n, us, pg, C, hR⟩ := id h
  obtain ⟨u1, u2, u3, u4, u5, u6, u7, u8⟩ := hR.2.1
  obtain ⟨c1, c2, c3, c4⟩ := hR.2.2.2.1
  obtain ⟨z, hz, rfl⟩ := iI_ex a
  have wi := wi_iff (a := z) (b := 1) (c := 40) hz (by decide) (by decide)
  unfold X6_open X7_open
  by_cases out : z < 1 ∨ 40 < z
  · refine ⟨iI (-102), w, w, ?_, ?_, h⟩
    · by_cases h1 : z < 1
      · rw [if_pos (yT h1 hz (by decide))]
      · rw [if_neg (nT (by omega) hz (by decide)), if_neg (nL (by omega) hz (by decide))]
    · rw [if_pos (wi.mpr (by omega))]
  · obtain ⟨k, rfl⟩ : ∃ k : Nat, z = k := ⟨z.toNat, by omega⟩
    generalize hwA : wr (wr w 0 0 4 (iI (k : Nat))) 0 0 3 (iI 0) = wA
    have fA : ∀ g o j, ¬ (g = 0 ∧ o = 0 ∧ (j = 3 ∨ j = 4)) → rd wA g o j = rd w g o j := by
      intro g o j hn
      rw [← hwA, rd_ne (by omega), rd_ne (by omega)]
    have hA3 : rd wA 0 0 3 = iI ((0 : Nat) : Int) := by rw [← hwA, rd_eq]; rfl
    have hA4 : rd wA 0 0 4 = iI (k : Nat) := by rw [← hwA, rd_j (by decide), rd_eq]
    have hA2 : wA.2 = w.2 := by rw [← hwA]; rfl
    obtain ⟨w1, e1, e2, e3⟩ := x_readAgain (w := wA) (n := n) (C := C) (us := us) (cm := 0) c1 (by rw [fA 0 0 7 (by omega)]; exact c2) (fun c hc => ⟨(c4 c hc).1, (c4 c hc).2.1.fr (fun o j _ => fA _ o j (by omega))⟩) (by omega) hA3 (fun j hj => by omega)
    have f1 : ∀ g o j, ¬ SReads g o j → ¬ (g = 0 ∧ o = 0 ∧ (j = 3 ∨ j = 4)) → rd w1 g o j = rd w g o j := fun g o j h1 h2 => by rw [e2.1 g o j h1, fA g o j h2]
    refine ⟨iI (cm : Nat), w1, wr (wr w1 12 0 7 (iI (k : Nat))) 12 0 8 (iI 0), ?_, ?_, ?_⟩
    · rw [if_neg (nT (by omega) hz (by decide)), if_pos (yL (by omega) hz (by decide))]
      simp only [bnd_e]
      rw [hwA, e1, ob_s, u4]
    · rw [if_neg (fun q => wi.mp q (by omega))]
      simp only [bnd_e]
      rw [f1 12 0 8 (by unfold SReads; omega) (by omega), u5]
    · generalize hw2 : wr (wr w1 12 0 7 (iI (k : Nat))) 12 0 8 (iI 0) = w2
      have f2 : ∀ g o j, ¬ (g = 12 ∧ o = 0 ∧ (j = 7 ∨ j = 8)) → rd w2 g o j = rd w1 g o j := by
        intro g o j hn
        rw [← hw2, rd_ne (by omega), rd_ne (by omega)]
      have fr2 : Fr SU w w2 := ⟨fun g o j hn => by
        unfold SU SUx SUm SReads at hn
        rw [f2 g o j (by omega), f1 g o j (by unfold SReads; omega) (by omega)], by rw [← hw2]; show w1.2 = w.2; rw [e2.2, hA2]⟩
      refine ⟨pl, 0, k, n, us, pg, C, hR.up fr2 (hR.1.fr ?_ ?_ ?_ ?_) ⟨by omega, by omega, by omega, ?_, ?_, ?_, ?_, fun j hj => by omega⟩ ?_ (fun c hc => ?_)⟩
      · rw [f2 0 0 1 (by omega), f1 0 0 1 (by unfold SReads; omega) (by omega)]
      · rw [f2 12 0 10 (by omega), f1 12 0 10 (by unfold SReads; omega) (by omega)]
      · intro j; rw [f2 0 1 j (by omega), f1 0 1 j (by unfold SReads; omega) (by omega)]
      · intro j; rw [f2 12 6 j (by omega), f1 12 6 j (by unfold SReads; omega) (by omega)]
      · rw [f2 0 0 3 (by omega), e2.1 0 0 3 (by unfold SReads; omega)]; exact hA3
      · rw [← hw2, rd_eq]; rfl
      · rw [f2 0 0 4 (by omega), e2.1 0 0 4 (by unfold SReads; omega)]; exact hA4
      · rw [← hw2, rd_j (by decide), rd_eq]
      · obtain ⟨v1, v2⟩ := hR.2.2.1
        refine ⟨?_, ?_⟩
        · rw [f2 0 0 8 (by omega), f2 12 0 5 (by omega), f1 0 0 8 (by unfold SReads; omega) (by omega), f1 12 0 5 (by unfold SReads; omega) (by omega)]; exact v1
        · rw [f2 0 0 9 (by omega), f2 12 0 6 (by omega), f1 0 0 9 (by unfold SReads; omega) (by omega), f1 12 0 6 (by unfold SReads; omega) (by omega)]; exact v2
      · exact (e3 c hc).fr (fun o j => f2 _ o j (by omega))
/-- the class's units behind k letCome: the first k of vs -/
def UX (w w1 : Wd) (cm : Nat) (vs : Nat → Nat) (k : Nat) : Prop := (∀ g o j, ¬ (g = 0 ∧ ((o = 0 ∧ (j = 3 ∨ j = 9)) ∨ o = 2)) → rd w1 g o j = rd w g o j) ∧ w1.2 = w.2 ∧ rd w1 0 0 3 = iI ((cm + k : Nat) : Int) ∧ rd w1 0 0 9 = rd w 0 0 9 + iI (k : Nat) ∧ (∀ j, j < cm → rd w1 0 2 j = rd w 0 2 j) ∧ ∀ j, j < k → rd w1 0 2 (cm + j) = iI (vs j : Nat)
def UM (w w1 : Wd) (cm : Nat) (vs : Nat → Nat) (k : Nat) : Prop := (∀ g o j, ¬ (g = 12 ∧ ((o = 0 ∧ (j = 8 ∨ j = 6)) ∨ o = 5)) → rd w1 g o j = rd w g o j) ∧ w1.2 = w.2 ∧ rd w1 12 0 8 = iI ((cm + k : Nat) : Int) ∧ rd w1 12 0 6 = rd w 12 0 6 + iI (k : Nat) ∧ (∀ j, j < cm → rd w1 12 5 j = rd w 12 5 j) ∧ ∀ j, j < k → rd w1 12 5 (cm + j) = iI (vs j : Nat)
theorem i32_add_assoc (a b c : Int32) : a + b + c = a + (b + c) := Int32.add_assoc a b c
theorem UX.step {w w1 : Wd} {cm k : Nat} {vs : Nat → Nat} (h : UX w w1 cm vs k) (hk : cm + k < 40) : ∃ w2, X6_letCome w1 (iI (vs k : Nat)) = some w2 ∧ UX w w2 cm vs (k + 1) := by
  obtain ⟨a1, a2, a3, a4, a5, a6⟩ := h
  unfold X6_letCome
  rw [a3, if_neg (nL (by omega) (by omega) (by omega)), pa_n hk (by decide), bnd_e, bnd_e, rd_o (by decide), a3, iI_add]
  refine ⟨_, rfl, fun g o j hn => ?_, a2, ?_, ?_, fun j hj => ?_, fun j hj => ?_⟩
  · rw [rd_ne (by omega), rd_ne (by omega), rd_ne (by omega), a1 g o j hn]
  · rw [rd_j (by decide), rd_eq]; congr 1
  · rw [rd_eq, rd_j (by decide), rd_o (by decide), a4, i32_add_assoc, iI_add]; congr 2
  · rw [rd_o (by decide), rd_o (by decide), rd_j (by omega), a5 j hj]
  · rw [rd_o (by decide), rd_o (by decide)]
    by_cases e : j = k
    · subst e; rw [rd_eq]
    · rw [rd_j (by omega), a6 j (by omega)]
theorem UM.step {w w1 : Wd} {cm k : Nat} {vs : Nat → Nat} (h : UM w w1 cm vs k) (hk : cm + k < 40) : ∃ w2, X7_comes w1 (iI (vs k : Nat)) = some w2 ∧ UM w w2 cm vs (k + 1) := by
  obtain ⟨a1, a2, a3, a4, a5, a6⟩ := h
  unfold X7_comes
  rw [a3, pa_n hk (by decide), bnd_e, bnd_e, rd_o (by decide), a3, iI_add]
  refine ⟨_, rfl, fun g o j hn => ?_, a2, ?_, ?_, fun j hj => ?_, fun j hj => ?_⟩
  · rw [rd_ne (by omega), rd_ne (by omega), rd_ne (by omega), a1 g o j hn]
  · rw [rd_j (by decide), rd_eq]; congr 1
  · rw [rd_eq, rd_j (by decide), rd_o (by decide), a4, i32_add_assoc, iI_add]; congr 2
  · rw [rd_o (by decide), rd_o (by decide), rd_j (by omega), a5 j hj]
  · rw [rd_o (by decide), rd_o (by decide)]
    by_cases e : j = k
    · subst e; rw [rd_eq]
    · rw [rd_j (by omega), a6 j (by omega)]
theorem i32_add_zero (a : Int32) : a + iI ((0 : Nat) : Int) = a := Int32.add_zero a
theorem UX.rf {w : Wd} {cm : Nat} {vs : Nat → Nat} (h : rd w 0 0 3 = iI (cm : Nat)) : UX w w cm vs 0 := ⟨fun _ _ _ _ => rfl, rfl, h, (i32_add_zero _).symm, fun _ _ => rfl, fun j hj => by omega⟩
theorem UM.rf {w : Wd} {cm : Nat} {vs : Nat → Nat} (h : rd w 12 0 8 = iI (cm : Nat)) : UM w w cm vs 0 := ⟨fun _ _ _ _ => rfl, rfl, h, (i32_add_zero _).symm, fun _ _ => rfl, fun j hj => by omega⟩
/-- k units have come on both sides, perhaps off the page (pz: then it is empty) -/
theorem Rel_come {w wX wY w1 wZ w2 : Wd} {pl cm ln n k : Nat} {us pg vs : Nat → Nat} {C : Nat → Cd} (hR : RelA w pl cm ln n us pg C) (hk : cm + k ≤ ln) (hv : ∀ j, j < k → vs j < 8) (pz : Bool)
    (hX : UX w wX cm vs k) (hY : wY = if pz = true then wr wX 0 0 1 (iI 0) else wX) (e1 : X6_readAgain wY = some w1) (hZ : UM w1 wZ cm vs k) (h2 : w2 = if pz = true then wr wZ 12 0 10 (iI 0) else wZ) :
    rd w1 0 0 3 = iI ((cm + k : Nat) : Int) ∧ rd w2 12 0 8 = iI ((cm + k : Nat) : Int) ∧ RelA w2 (if pz = true then 0 else pl) (cm + k) ln n (fun j => if j < cm then us j else vs (j - cm)) pg C := by
  obtain ⟨a1, a2, a3, a4, a5, a6⟩ := hX
  obtain ⟨b1, b2, b3, b4, b5, b6⟩ := hZ
  obtain ⟨u1, u2, u3, u4, u5, u6, u7, u8⟩ := hR.2.1
  obtain ⟨c1, c2, c3, c4⟩ := hR.2.2.2.1
  generalize hus : (fun j => if j < cm then us j else vs (j - cm)) = us'
  have hus1 : ∀ j, j < cm → us' j = us j := fun j hj => by rw [← hus]; exact if_pos hj
  have hus2 : ∀ j, us' (cm + j) = vs j := fun j => by rw [← hus]; dsimp only; rw [if_neg (by omega), show cm + j - cm = j by omega]
  have fY : ∀ g o j, ¬ (g = 0 ∧ o = 0 ∧ j = 1) → rd wY g o j = rd wX g o j := by
    intro g o j hn
    rw [hY]; split
    · rw [rd_ne hn]
    · rfl
  have hY2 : wY.2 = w.2 := by rw [hY, ← a2]; split <;> rfl
  have hunit : ∀ j, j < cm + k → us' j < 8 ∧ rd wY 0 2 j = iI (us' j : Nat) := by
    intro j hj
    by_cases hj2 : j < cm
    · rw [hus1 j hj2, fY 0 2 j (by omega), a5 j hj2]; exact ⟨(u8 j hj2).1, (u8 j hj2).2.1⟩
    · obtain ⟨i, rfl⟩ : ∃ i, j = cm + i := ⟨j - cm, by omega⟩
      rw [hus2, fY 0 2 _ (by omega), a6 i (by omega)]; exact ⟨hv i (by omega), rfl⟩
  have hX7 : rd wY 0 0 7 = iI (n : Nat) := by rw [fY 0 0 7 (by omega), a1 0 0 7 (by omega)]; exact c2
  have hX3 : rd wY 0 0 3 = iI ((cm + k : Nat) : Int) := by rw [fY 0 0 3 (by omega)]; exact a3
  obtain ⟨w1', e1', e2, e3⟩ := x_readAgain (w := wY) (n := n) (C := C) (us := us') (cm := cm + k) c1 hX7 (fun c hc => ⟨(c4 c hc).1, (c4 c hc).2.1.fr (fun o j _ => by rw [fY _ o j (by omega), a1 _ o j (by omega)])⟩) (by omega) hX3 hunit
  rw [e1] at e1'
  cases e1'
  have f1 : ∀ g o j, ¬ SReads g o j → rd w1 g o j = rd wY g o j := e2.1
  have f2 : ∀ g o j, ¬ (g = 12 ∧ o = 0 ∧ j = 10) → rd w2 g o j = rd wZ g o j := by
    intro g o j hn
    rw [h2]; split
    · rw [rd_ne hn]
    · rfl
  have hw2 : w2.2 = wZ.2 := by rw [h2]; split <;> rfl
  refine ⟨by rw [f1 0 0 3 (by unfold SReads; omega)]; exact hX3, by rw [f2 12 0 8 (by omega)]; exact b3, hR.up ⟨fun g o j hn => ?_, ?_⟩ ?_ ⟨by omega, by omega, by omega, ?_, ?_, ?_, ?_, fun j hj => ⟨(hunit j hj).1, ?_, ?_⟩⟩ ⟨?_, ?_⟩ (fun c hc => ?_)⟩
  · unfold SU SUx SUm SReads at hn
    rw [f2 g o j (by omega), b1 g o j (by omega), f1 g o j (by unfold SReads; omega), fY g o j (by omega), a1 g o j (by omega)]
  · rw [hw2, b2, e2.2, hY2]
  · obtain ⟨p1, p2, p3, p4⟩ := hR.1
    cases pz with
    | true =>
      refine ⟨Nat.zero_le _, ?_, ?_, fun j hj => ?_⟩
      · rw [f2 0 0 1 (by omega), b1 0 0 1 (by omega), f1 0 0 1 (by unfold SReads; omega), hY, if_pos rfl, rd_eq]; rfl
      · rw [h2, if_pos rfl, rd_eq]; rfl
      · rw [if_pos rfl] at hj; omega
    | false =>
      rw [if_neg (by decide)]
      refine hR.1.fr ?_ ?_ (fun j => ?_) (fun j => ?_)
      · rw [f2 0 0 1 (by omega), b1 0 0 1 (by omega), f1 0 0 1 (by unfold SReads; omega), hY, if_neg (by decide), a1 0 0 1 (by omega)]
      · rw [h2, if_neg (by decide), b1 12 0 10 (by omega), f1 12 0 10 (by unfold SReads; omega), hY, if_neg (by decide), a1 12 0 10 (by omega)]
      · rw [f2 0 1 j (by omega), b1 0 1 j (by omega), f1 0 1 j (by unfold SReads; omega), fY 0 1 j (by omega), a1 0 1 j (by omega)]
      · rw [f2 12 6 j (by omega), b1 12 6 j (by omega), f1 12 6 j (by unfold SReads; omega), fY 12 6 j (by omega), a1 12 6 j (by omega)]
  · rw [f2 0 0 3 (by omega), b1 0 0 3 (by omega), f1 0 0 3 (by unfold SReads; omega)]; exact hX3
  · rw [f2 12 0 8 (by omega)]; exact b3
  · rw [f2 0 0 4 (by omega), b1 0 0 4 (by omega), f1 0 0 4 (by unfold SReads; omega), fY 0 0 4 (by omega), a1 0 0 4 (by omega)]; exact u6
  · rw [f2 12 0 7 (by omega), b1 12 0 7 (by omega), f1 12 0 7 (by unfold SReads; omega), fY 12 0 7 (by omega), a1 12 0 7 (by omega)]; exact u7
  · rw [f2 0 2 j (by omega), b1 0 2 j (by omega), f1 0 2 j (by unfold SReads; omega)]; exact (hunit j hj).2
  · rw [f2 12 5 j (by omega)]
    by_cases hj2 : j < cm
    · rw [b5 j hj2, hus1 j hj2, f1 12 5 j (by unfold SReads; omega), fY 12 5 j (by omega), a1 12 5 j (by omega)]; exact (u8 j hj2).2.2
    · obtain ⟨i, rfl⟩ : ∃ i, j = cm + i := ⟨j - cm, by omega⟩
      rw [hus2, b6 i (by omega)]
  · rw [f2 0 0 8 (by omega), b1 0 0 8 (by omega), f1 0 0 8 (by unfold SReads; omega), fY 0 0 8 (by omega), a1 0 0 8 (by omega), f2 12 0 5 (by omega), b1 12 0 5 (by omega), f1 12 0 5 (by unfold SReads; omega), fY 12 0 5 (by omega), a1 12 0 5 (by omega)]
    exact hR.2.2.1.1
  · rw [f2 0 0 9 (by omega), b1 0 0 9 (by omega), f1 0 0 9 (by unfold SReads; omega), fY 0 0 9 (by omega), a4, f2 12 0 6 (by omega), b4, f1 12 0 6 (by unfold SReads; omega), fY 12 0 6 (by omega), a1 12 0 6 (by omega), hR.2.2.1.2]
  · exact (e3 c hc).fr (fun o j => by rw [f2 _ o j (by omega), b1 _ o j (by omega)])
/-- the class's readAgain ends, on whatever is laid so -/
theorem readAgain_some {w wX wY : Wd} {pl cm ln n k : Nat} {us pg vs : Nat → Nat} {C : Nat → Cd} (hR : RelA w pl cm ln n us pg C) (hk : cm + k ≤ ln) (hv : ∀ j, j < k → vs j < 8) (hX : UX w wX cm vs k) (fY : ∀ g o j, ¬ (g = 0 ∧ o = 0 ∧ j = 1) → rd wY g o j = rd wX g o j) : ∃ w1, X6_readAgain wY = some w1 ∧ Fr SReads wY w1 := by
  obtain ⟨a1, a2, a3, a4, a5, a6⟩ := hX
  obtain ⟨u1, u2, u3, u4, u5, u6, u7, u8⟩ := hR.2.1
  obtain ⟨c1, c2, c3, c4⟩ := hR.2.2.2.1
  obtain ⟨w1, e1, e2, -⟩ := x_readAgain (w := wY) (n := n) (C := C) (us := fun j => if j < cm then us j else vs (j - cm)) (cm := cm + k) c1 (by rw [fY 0 0 7 (by omega), a1 0 0 7 (by omega)]; exact c2) (fun c hc => ⟨(c4 c hc).1, (c4 c hc).2.1.fr (fun o j _ => by rw [fY _ o j (by omega), a1 _ o j (by omega)])⟩) (by omega) (by rw [fY 0 0 3 (by omega)]; exact a3) (fun j hj => by
    by_cases hj2 : j < cm
    · rw [if_pos hj2, fY 0 2 j (by omega), a5 j hj2]; exact ⟨(u8 j hj2).1, (u8 j hj2).2.1⟩
    · obtain ⟨i, rfl⟩ : ∃ i, j = cm + i := ⟨j - cm, by omega⟩
      rw [if_neg hj2, show cm + i - cm = i by omega, fY 0 2 _ (by omega), a6 i (by omega)]; exact ⟨hv i (by omega), rfl⟩)
  exact ⟨w1, e1, e2⟩
theorem isUnit_out {z : Int} (hz : inR z) (h : z < 0 ∨ 8 ≤ z) : X6_isUnit (iI z) = 0 := by
  unfold X6_isUnit
  by_cases h0 : z < 0
  · rw [if_pos (yT0 h0 hz)]; rfl
  · rw [if_neg (nT0 (by omega) hz), if_pos (yL (by omega) (by decide) hz)]; rfl
theorem op_feed {w : Wd} (h : Rel w) (a : Int32) : ∃ r w1 w2, X6_feed w a = some (r, w1) ∧ X7_feed w1 a = some (r, w2) ∧ Rel w2 := by
  obtain ⟨pl, cm, ln, n, us, pg, C, hR⟩ := id h
  obtain ⟨u1, u2, u3, u4, u5, u6, u7, u8⟩ := hR.2.1
  obtain ⟨z, hz, rfl⟩ := iI_ex a
  have wi := wi_iff (a := z) (b := 0) (c := 7) hz (by decide) (by decide)
  unfold X6_feed X7_feed
  by_cases out : z < 0 ∨ 8 ≤ z
  · exact ⟨iI (-102), w, w, by rw [if_pos (isUnit_out hz out)], by rw [if_pos (wi.mpr (by omega))], h⟩
  · obtain ⟨k, rfl⟩ : ∃ k : Nat, z = k := ⟨z.toNat, by omega⟩
    have hk8 : k < 8 := by omega
    rw [isUnit_in hk8, if_neg n10, u4, u6]
    by_cases full : cm = ln
    · refine ⟨iI (-104), w, w, by rw [if_neg (nT (by omega) (by omega) (by omega))], ?_, h⟩
      rw [if_neg (fun q => wi.mp q (by omega)), u5, u7, if_pos (yE (by omega))]
    · rw [if_pos (yT (by omega) (by omega) (by omega))]
      obtain ⟨wX, x1, x2⟩ := (UX.rf (w := w) (vs := fun _ => k) u4).step (by omega)
      rw [x1, ob_s]
      obtain ⟨w1, e1, e2⟩ := readAgain_some hR (show cm + 1 ≤ ln by omega) (fun j _ => hk8) x2 (fun _ _ _ _ => rfl)
      have f1 : ∀ g o j, g = 12 → rd w1 g o j = rd w g o j := fun g o j hg => by rw [e2.1 g o j (by unfold SReads; omega), x2.1 g o j (by omega)]
      obtain ⟨wZ, y1, y2⟩ := (UM.rf (w := w1) (cm := cm) (vs := fun _ => k) (by rw [f1 12 0 8 rfl]; exact u5)).step (by omega)
      obtain ⟨r1, r2, r3⟩ := Rel_come hR (show cm + 1 ≤ ln by omega) (fun j _ => hk8) false x2 rfl e1 y2 rfl
      refine ⟨iI ((cm + 1 : Nat) : Int), w1, wZ, ?_, ?_, _, _, _, _, _, _, _, r3⟩
      · rw [e1, ob_s, r1]
      · rw [if_neg (fun q => wi.mp q (by omega)), f1 12 0 8 rfl, f1 12 0 7 rfl, u5, u7, if_neg (nE (by omega) (by omega) (by omega)), y1, ob_s]
        rw [if_neg (by decide)] at r2
        rw [r2]

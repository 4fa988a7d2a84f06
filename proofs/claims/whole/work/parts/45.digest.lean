/-! The digest. -/
def fL (f : Nat → Int32) (a : Int64) : Nat → Int64
  | 0 => a
  | k + 1 => (31 : Int64) * fL f a k + (f k).toInt64
def AP (C1 C2 : Cd) (r : Int) : Prop := (r = -1 ∧ ∀ n y s, ru (dl C1 C2) n y = some s → ¬ pS s) ∨ (∃ k y : Nat, Ans (dl C1 C2) k y ∧ r = k)
theorem AP.uniq {C1 C2 : Cd} (k1 : cok C1) (k2 : cok C2) {r s : Int} (h1 : AP C1 C2 r) (h2 : AP C1 C2 s) : r = s := by
  rcases h1 with ⟨a1, a2⟩ | ⟨k, y, a1, a2⟩
  · rcases h2 with ⟨b1, b2⟩ | ⟨m, z, b1, b2⟩
    · omega
    · obtain ⟨-, ⟨t, t1, t2⟩, -⟩ := b1
      exact absurd t2 (a2 _ _ _ t1)
  · rcases h2 with ⟨b1, b2⟩ | ⟨m, z, b1, b2⟩
    · obtain ⟨-, ⟨t, t1, t2⟩, -⟩ := a1
      exact absurd t2 (b2 _ _ _ t1)
    · obtain ⟨p1, p2⟩ := a1.least k1 k2
      obtain ⟨q1, q2⟩ := b1.least k1 k2
      rcases Nat.lt_trichotomy k m with c | c | c
      · exact absurd p1 (q2 k c)
      · omega
      · exact absurd q1 (p2 m c)
section DIG1
variable {w : Wd} {cm ln n : Nat} {us : Nat → Nat} {C : Nat → Cd}
theorem XC.apart (h : XC w cm ln n us C) {a b : Nat} (ha : a < n) (hb : b < n) : ∃ (r : Int) (w' : Wd), X6_apart w (iI (a : Nat)) (iI (b : Nat)) = some (iI r, w') ∧ Fr ScX w w' ∧ AP (C a) (C b) r := by
  obtain ⟨h1, h2, h3, h4, h5, h6, h7, h8, h9⟩ := id h
  obtain ⟨ka, xa, -⟩ := h9 a ha
  obtain ⟨kb, xb, -⟩ := h9 b hb
  obtain ⟨r, w1, e1, e2, e3⟩ := x_search xa xb ka kb (by omega) (by omega)
  have f1 : Fr ScX w w1 := e2.mono (fun g o j hh => (show ScX g o j by unfold SB at hh; unfold ScX; omega))
  unfold X6_apart
  rw [if_neg (fun q => (h.isCode (by omega)).mp q (by omega)), if_neg (fun q => (h.isCode (by omega)).mp q (by omega)), ix_n (by omega) (by decide), ix_n (by omega) (by decide), e1, bI_s]
  rcases e3 with ⟨r1, r2⟩ | ⟨r1, k, y, r2, r3, r4⟩
  · exact ⟨-1, w1, by rw [r1, if_pos (show iI 0 = 0 from rfl)], f1, Or.inl ⟨rfl, r2⟩⟩
  · exact ⟨k, w1, by rw [r1, if_neg (by decide)]; unfold X4_rowLength; rw [r3], f1, Or.inr ⟨k, y, r2, rfl⟩⟩
theorem MC.apart (h : MC w cm ln n us C) {a b : Nat} (ha : a < n) (hb : b < n) {r : Int} (hr : AP (C a) (C b) r) : ∃ w', X7_apartNow w (iI (a : Nat)) (iI (b : Nat)) = some (iI r, w') ∧ Fr ScM w w' := by
  obtain ⟨h1, h2, h3, h4, h5, h6, h7, h8, h9⟩ := id h
  obtain ⟨ka, ma⟩ := h9 a ha
  obtain ⟨kb, mb⟩ := h9 b hb
  obtain ⟨s, w2, g1, g2, g3, g4⟩ := m_apart ma mb ka kb (by omega) (by omega)
  refine ⟨w2, ?_, g2.mono (fun _ _ _ q => SPt_m q)⟩
  rcases hr with ⟨r1, r2⟩ | ⟨k, y, r2, r1⟩
  · rcases g4 with ⟨s1, -⟩ | ⟨m, s1, s2, s3, s4⟩
    · rw [g1, s1, r1]
    · obtain ⟨z, s', q1, q2, -⟩ := RR_word m 0 1 0 rfl s3
      exact absurd q2 (r2 _ _ _ q1)
  · obtain ⟨l1, l2⟩ := r2.least ka kb
    have hk := r2.1
    rcases g4 with ⟨s1, s2⟩ | ⟨m, s1, s2, s3, s4⟩
    · exact absurd l1 (s2 k (by omega))
    · have : m = k := by
        rcases Nat.lt_trichotomy m k with c | c | c
        · exact absurd s3 (l2 m c)
        · exact c
        · exact absurd l1 (s4 k c)
      rw [g1, s1, this, r1]
theorem XC.ink (h : XC w cm ln n us C) {c j : Nat} (hc : c < n) (hj : j < lets (C c).1) : X6_ink w (iI (c : Nat)) (iI (j : Nat)) = some (iI (inkc (C c) j : Nat)) := by
  obtain ⟨h1, h2, h3, h4, h5, h6, h7, h8, h9⟩ := id h
  obtain ⟨hk, cx, -⟩ := h9 c hc
  have hl := lets_le (C c).1
  unfold X6_ink
  rw [if_neg (fun q => (h.isCode (by omega)).mp q (by omega)), if_neg (nT0 (by omega) (by omega)), ix_n (by omega) (by decide), ix_n (by omega) (by decide)]
  unfold X0_textLength
  rw [cx.1, if_pos (yT (by omega) (by omega) (by omega))]
  unfold X0_textAt
  rw [if_neg (nT0 (by omega) (by omega)), cx.1, if_neg (nL (by omega) (by omega) (by omega)), ga_n (by omega) (by decide), cx.2.2.2.1 j (by omega), ob_s]
theorem MC.ink (h : MC w cm ln n us C) {c j : Nat} (hc : c < n) (hj : j < lets (C c).1) : X7_inkNow w (iI (c : Nat)) (iI (j : Nat)) = some (iI (inkc (C c) j : Nat)) := by
  obtain ⟨h1, h2, h3, h4, h5, h6, h7, h8, h9⟩ := id h
  obtain ⟨hk, cM⟩ := h9 c hc
  have hl := lets_le (C c).1
  have hle : lets (C c).1 = 1 + dgs (C c).1 + mks (C c).1 + 4 := rfl
  unfold X7_inkNow
  have lt : ∀ k, k < 4 → X7_letterOf (iI (k : Nat)) = iI (letr k : Nat) := by decide
  have ml : ∀ k, k < 8 → X7_markLetter (iI (k : Nat)) = iI (mletr k : Nat) := by decide
  unfold inkc
  by_cases j0 : j = 0
  · rw [if_pos (yE0 (by omega)), ga_n (by omega) (by decide), cM.1, if_pos j0, lt _ hk.1]
  · rw [if_neg (nE0 (by omega) (by omega)), ga_n (by omega) (by decide), cM.1, m_digitsOf hk.1, iI_sub, iI_sub, bnd_e, ga_n (by omega) (by decide), cM.1, m_marksOf hk.1, bnd_e, if_neg j0]
    by_cases j1 : j < 1 + dgs (C c).1
    · rw [if_neg (n0L (by omega) (by omega)), ga_n (by omega) (by decide), cM.2.1, iI_add, if_pos j1]; congr 2
    · rw [if_pos (y0L (by omega) (by omega)), if_neg j1]
      by_cases j2 : j < 1 + dgs (C c).1 + mks (C c).1
      · rw [if_neg (nL (by omega) (by omega) (by omega)), iI_mul, iI_add, ga_e (k := 16 * c + (j - 1 - dgs (C c).1)) (by omega) (by omega) (by decide), cM.2.2.1 _ (by omega), if_pos j2, ml _ (hk.2.2.1 _ (by omega)).1]
      · rw [if_pos (yL (by omega) (by omega) (by omega)), iI_mul, iI_add, iI_sub, ga_e (k := 4 * c + (j - 1 - dgs (C c).1 - mks (C c).1)) (by omega) (by omega) (by decide), cM.2.2.2 _ (by omega), iI_add, if_neg j2]; congr 2
theorem XC.pairs (h : XC w cm ln n us C) {c i : Nat} (hc : c < n) (hi : i < 4) : X6_pairs w (iI (c : Nat)) (iI (i : Nat)) = some (iI ((rn (C c) us cm).2.2.2.2.2 i : Nat)) := by
  obtain ⟨h1, h2, h3, h4, h5, h6, h7, h8, h9⟩ := id h
  unfold X6_pairs
  rw [if_neg (fun q => (h.isCode (by omega)).mp q (by omega)), if_neg (fun q => (isPair_iff (by omega)).mp q (by omega)), ix_n (by omega) (by decide)]
  unfold X5_pairCount
  rw [isPair_in (by omega), if_neg n10, ga_n (by omega) (by decide), (h9 c hc).2.2.2.1 i hi, ob_s]
theorem MC.pairs (h : MC w cm ln n us C) {c i : Nat} (hc : c < n) (hi : i < 4) : ∃ w', X7_pairsOf w (iI (c : Nat)) (iI (i : Nat)) = some (iI ((rn (C c) us cm).2.2.2.2.2 i : Nat), w') ∧ Fr ScM w w' := by
  obtain ⟨w', e1, e2, e3⟩ := h.along hc
  unfold X7_pairsOf
  exact ⟨w', by rw [e1, ob_s, ga_n (by omega) (by decide), e2.2.2.2.2.2 i (by omega)], e3⟩
theorem XC.rows5 (h : XC w cm ln n us C) {c : Nat} (hc : c < n) : ∃ w', X6_rows w (iI (c : Nat)) (iI 5) = some (iI (wy (C c) 5 0 : Nat), w') ∧ Fr ScX w w' := by
  obtain ⟨h1, h2, h3, h4, h5, h6, h7, h8, h9⟩ := id h
  obtain ⟨hk, cx, -⟩ := h9 c hc
  obtain ⟨w1, e1, e2⟩ := x_rows cx hk (n := 5) (by omega)
  unfold X6_rows
  refine ⟨w1, ?_, e2.mono (fun _ _ _ hh => SWx_sc (by omega) hh)⟩
  rw [if_neg (fun q => (h.isCode (by omega)).mp q (by omega)), if_neg (by decide), if_pos (by decide), ix_n (by omega) (by decide)]
  rw [show (iI 5 : Int32) = iI ((5 : Nat) : Int) from rfl, e1, bI_s]
theorem MC.rows5 (h : MC w cm ln n us C) {c : Nat} (hc : c < n) : ∃ w', X7_rowsNow w (iI (c : Nat)) (iI 5) = some (iI (wy (C c) 5 0 : Nat), w') ∧ Fr ScM w w' := by
  obtain ⟨h1, h2, h3, h4, h5, h6, h7, h8, h9⟩ := id h
  obtain ⟨hk, cM⟩ := h9 c hc
  obtain ⟨w1, e1, e2⟩ := m_rows cM hk (by omega) (n := 5) (by omega)
  exact ⟨w1, e1, e2.mono (fun _ _ _ hh => SWm_sc hh)⟩
end DIG1

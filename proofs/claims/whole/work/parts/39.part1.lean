/-! apart: the search, as the class does it. Words of units are numbers of base 8 with a leading 1: the order by length, then by units, is the order of the numbers. -/
def dl (C1 C2 : Cd) (s u : Nat) : Option Nat := match trc C1 (s / 6) u with
  | none => none
  | some q1 => match trc C2 (s % 6) u with
    | none => some (6 * q1.1 + 5)
    | some q2 => some (6 * q1.1 + q2.1)
def vS (C1 C2 : Cd) (s : Nat) : Prop := s / 6 < ms C1 ∧ (s % 6 = 5 ∨ s % 6 < ms C2)
def pS (s : Nat) : Prop := s / 6 = 0 ∧ s % 6 ≠ 0
theorem dl_ok {C1 C2 : Cd} (k1 : cok C1) (k2 : cok C2) {s u s' : Nat} (hu : u < 8) (h : dl C1 C2 s u = some s') : s' < 30 ∧ vS C1 C2 s' := by
  have m1 := ms_le C1
  have m2 := ms_le C2
  unfold dl at h
  cases e1 : trc C1 (s / 6) u with
  | none => rw [e1] at h; cases h
  | some q1 =>
    obtain ⟨a, b⟩ := q1
    obtain ⟨-, x1, -⟩ := trc_ok k1 hu e1
    rw [e1] at h
    dsimp only at h
    cases e2 : trc C2 (s % 6) u with
    | none =>
      rw [e2] at h; cases h
      unfold vS; omega
    | some q2 =>
      obtain ⟨c, d⟩ := q2
      obtain ⟨-, x2, -⟩ := trc_ok k2 hu e2
      rw [e2] at h; cases h
      unfold vS; dsimp only; omega
def ru (D : Nat → Nat → Option Nat) : Nat → Nat → Option Nat
  | 0, y => if y = 1 then some 0 else none
  | n + 1, y => match ru D n (y / 8) with
    | none => none
    | some s => D s (y % 8)
theorem php : ∀ (n t : Nat) (f : Nat → Nat), (∀ i, i < t → f i < n) → (∀ i j, i < t → j < t → f i = f j → i = j) → t ≤ n := by
  intro n
  induction n with
  | zero =>
    intro t f h1 _
    cases t with
    | zero => exact Nat.le_refl _
    | succ t => have := h1 0 (by omega); omega
  | succ n ih =>
    intro t f h1 h2
    by_cases q : ∃ i, i < t ∧ f i = n
    · obtain ⟨i, hi, hf⟩ := q
      have := ih (t - 1) (fun j => f (if j < i then j else j + 1)) (fun j hj => by
        try dsimp only
        have a1 := h1 (if j < i then j else j + 1) (by split <;> omega)
        have a2 : f (if j < i then j else j + 1) ≠ n := fun e => by
          have := h2 (if j < i then j else j + 1) i (by split <;> omega) hi (by rw [e, hf])
          split at this <;> omega
        omega) (fun j k hj hk e => by
        try dsimp only at e
        have := h2 _ _ (by split <;> omega) (by split <;> omega) e
        split at this <;> split at this <;> omega)
      omega
    · have := ih t f (fun i hi => by
        have a1 := h1 i hi
        have a2 : f i ≠ n := fun e => q ⟨i, hi, e⟩
        omega) h2
      omega
def Bq (w : Wd) (D : Nat → Nat → Option Nat) (t h u : Nat) (q wd pi le : Nat → Nat) : Prop :=
  (1 ≤ t ∧ t ≤ 30 ∧ rd w 10 0 4 = iI (t : Nat)) ∧ (q 0 = 0 ∧ wd 0 = 1 ∧ le 0 = 0 ∧ rd w 10 2 0 = iI (-1)) ∧
  (∀ j, j < t → rd w 10 1 j = iI (q j : Nat) ∧ q j < 30 ∧ ru D (le j) (wd j) = some (q j) ∧ le j ≤ j) ∧
  (∀ j, 0 < j → j < t → pi j < j ∧ rd w 10 2 (q j) = iI (q (pi j) : Nat) ∧ rd w 10 3 (q j) = iI ((wd j % 8 : Nat) : Int) ∧ wd j / 8 = wd (pi j) ∧ le j = le (pi j) + 1 ∧ (pi j < h ∨ (pi j = h ∧ wd j % 8 < u))) ∧
  (∀ i j, i < j → j < t → wd i < wd j) ∧ (∀ s, s < 30 → (∀ j, j < t → q j ≠ s) → rd w 10 2 s = iI (-2)) ∧
  (∀ i j, i < t → j < t → q i = q j → i = j) ∧
  (∀ i v s', (i < h ∨ (i = h ∧ v < u)) → v < 8 → D (q i) v = some s' → ∃ j, j < t ∧ q j = s' ∧ wd j ≤ 8 * wd i + v) ∧ (∀ i, i < h → ¬ pS (q i))
section BFS
variable {w : Wd} {D : Nat → Nat → Option Nat} {t h u : Nat} {q wd pi le : Nat → Nat}
theorem Bq.wd1 (B : Bq w D t h u q wd pi le) {j : Nat} (hj : j < t) : 1 ≤ wd j := by
  obtain ⟨b1, b2, b3, b4, b5, b6, b7, b8, b9⟩ := B
  rcases Nat.eq_zero_or_pos j with e | e
  · rw [e, b2.2.1]; exact Nat.le_refl _
  · have := b5 0 j e hj; omega
/-- what is in the queue is before what comes next -/
theorem Bq.le_next (B : Bq w D t h u q wd pi le) (hh : h < t) {j : Nat} (hj : j < t) : wd j < 8 * wd h + u ∨ (j = 0 ∧ wd j ≤ 8 * wd h + u) := by
  have w1 := B.wd1 hh
  obtain ⟨b1, b2, b3, b4, b5, b6, b7, b8, b9⟩ := B
  rcases Nat.eq_zero_or_pos j with e | e
  · right; rw [e, b2.2.1]; omega
  · left
    obtain ⟨c1, c2, c3, c4, c5, c6⟩ := b4 j e hj
    rcases c6 with c | c
    · have := b5 (pi j) h c hh; omega
    · rw [c.1] at c4; omega
theorem Bq.none (B : Bq w D t h u q wd pi le) (e : D (q h) u = none) : Bq w D t h (u + 1) q wd pi le := by
  obtain ⟨b1, b2, b3, b4, b5, b6, b7, b8, b9⟩ := B
  refine ⟨b1, b2, b3, fun j h0 hj => ?_, b5, b6, b7, fun i v s' hi hv hd => ?_, b9⟩
  · obtain ⟨c1, c2, c3, c4, c5, c6⟩ := b4 j h0 hj
    exact ⟨c1, c2, c3, c4, c5, by omega⟩
  · by_cases z : i = h ∧ v = u
    · rw [z.1, z.2, e] at hd; cases hd
    · exact b8 i v s' (by omega) hv hd
theorem Bq.head (B : Bq w D t h 8 q wd pi le) (e : ¬ pS (q h)) : Bq w D t (h + 1) 0 q wd pi le := by
  obtain ⟨b1, b2, b3, b4, b5, b6, b7, b8, b9⟩ := B
  refine ⟨b1, b2, b3, fun j h0 hj => ?_, b5, b6, b7, fun i v s' hi hv hd => ?_, fun i hi => ?_⟩
  · obtain ⟨c1, c2, c3, c4, c5, c6⟩ := b4 j h0 hj
    exact ⟨c1, c2, c3, c4, c5, by omega⟩
  · exact b8 i v s' (by omega) hv hd
  · by_cases z : i = h
    · rw [z]; exact e
    · exact b9 i (by omega)
def SB (g _o _j : Nat) : Prop := g = 10
theorem x_reach (B : Bq w D t h u q wd pi le) (hh : h < t) (hu : u < 8) {s' : Nat} (hs : s' < 30) (e : D (q h) u = some s') : ∃ w' t' q' wd' pi' le', X4_reach w (iI (s' : Nat)) (iI (q h : Nat)) (iI (u : Nat)) = some w' ∧ Fr SB w w' ∧ Bq w' D t' h (u + 1) q' wd' pi' le' ∧ t ≤ t' ∧ q' h = q h := by
  have ln := fun {j : Nat} (hj : j < t) => B.le_next hh hj
  have w1 := B.wd1 hh
  obtain ⟨b1, b2, b3, b4, b5, b6, b7, b8, b9⟩ := B
  unfold X4_reach
  rw [if_neg (nT0 (by omega) (by omega)), if_neg (nL (by omega) (by omega) (by omega)), ga_n hs (by decide)]
  by_cases r : ∃ j, j < t ∧ q j = s'
  · obtain ⟨j, hj, hq⟩ := r
    have hne : ¬ rd w 10 2 s' = iI (-2) := by
      rcases Nat.eq_zero_or_pos j with z | z
      · rw [← hq, z, b2.1, b2.2.2.2]; decide
      · obtain ⟨c1, c2, -⟩ := b4 j z hj
        have := (b3 (pi j) (by omega)).2.1
        rw [← hq, c2]; exact nE (by omega) (by omega) (by omega)
    rw [if_neg hne]
    refine ⟨w, t, q, wd, pi, le, rfl, Fr.rf _ w, ⟨b1, b2, b3, fun j h0 hj => ?_, b5, b6, b7, fun i v x hi hv hd => ?_, b9⟩, Nat.le_refl _, rfl⟩
    · obtain ⟨c1, c2, c3, c4, c5, c6⟩ := b4 j h0 hj
      exact ⟨c1, c2, c3, c4, c5, by omega⟩
    · by_cases z : i = h ∧ v = u
      · rw [z.1, z.2, e] at hd
        cases hd
        exact ⟨j, hj, hq, by have := ln hj; rw [z.1, z.2]; omega⟩
      · exact b8 i v x (by omega) hv hd
  · have nr : ∀ j, j < t → q j ≠ s' := fun j hj z => r ⟨j, hj, z⟩
    have t30 : t < 30 := by
      have := php 30 (t + 1) (fun j => if j = t then s' else q j) (fun i hi => by
        try dsimp only
        split
        · exact hs
        · exact (b3 i (by omega)).2.1) (fun i j hi hj z => by
        try dsimp only at z
        by_cases zi : i = t
        · by_cases zj : j = t
          · omega
          · rw [if_pos zi, if_neg zj] at z; exact absurd z.symm (nr j (by omega))
        · by_cases zj : j = t
          · rw [if_neg zi, if_pos zj] at z; exact absurd z (nr i (by omega))
          · rw [if_neg zi, if_neg zj] at z; exact b7 i j (by omega) (by omega) z)
      omega
    rw [if_pos (b6 s' hs nr), b1.2.2, if_neg (nL (by omega) (by omega) (by omega)), pa_n hs (by decide), pa_n hs (by decide), rd_o (by decide), rd_o (by decide), b1.2.2, pa_n t30 (by decide), bnd_e, rd_o (by decide), rd_o (by decide), rd_o (by decide), b1.2.2, iI_add]
    have hs0 : s' ≠ 0 := fun z => nr 0 (by omega) (by rw [b2.1, z])
    have qh : ∀ j, j < t → (if j = t then s' else q j) = q j := fun j hj => if_neg (by omega)
    refine ⟨_, t + 1, fun j => if j = t then s' else q j, fun j => if j = t then 8 * wd h + u else wd j, fun j => if j = t then h else pi j, fun j => if j = t then le h + 1 else le j, rfl, ((((Fr.rf _ w).wr _ rfl).wr _ rfl).wr _ rfl).wr _ rfl, ⟨⟨by omega, by omega, rd_eq⟩, ?_, ?_, ?_, ?_, ?_, ?_, ?_, ?_⟩, by omega, qh h hh⟩
    · refine ⟨by dsimp only; rw [if_neg (by omega)]; exact b2.1, by dsimp only; rw [if_neg (by omega)]; exact b2.2.1, by dsimp only; rw [if_neg (by omega)]; exact b2.2.2.1, ?_⟩
      rw [rd_o (by decide), rd_o (by decide), rd_o (by decide), rd_j (by omega)]; exact b2.2.2.2
    · intro j hj
      dsimp only
      by_cases z : j = t
      · subst z
        rw [if_pos rfl, if_pos rfl, if_pos rfl]
        refine ⟨by rw [rd_o (by decide), rd_eq], hs, ?_, by have := (b3 h hh).2.2.2; omega⟩
        show (match ru D (le h) ((8 * wd h + u) / 8) with | .none => .none | some s => D s ((8 * wd h + u) % 8)) = some s'
        rw [show (8 * wd h + u) / 8 = wd h by omega, show (8 * wd h + u) % 8 = u by omega, (b3 h hh).2.2.1]
        exact e
      · rw [if_neg z, if_neg z, if_neg z, rd_o (by decide), rd_j z, rd_o (by decide), rd_o (by decide)]
        exact b3 j (by omega)
    · intro j h0 hj
      dsimp only
      by_cases z : j = t
      · subst z
        rw [if_pos rfl, if_pos rfl, if_pos rfl, if_pos rfl, if_neg (show ¬ h = j by omega), if_neg (show ¬ h = j by omega), if_neg (show ¬ h = j by omega)]
        refine ⟨hh, ?_, ?_, by omega, rfl, by omega⟩
        · rw [rd_o (by decide), rd_o (by decide), rd_o (by decide), rd_eq]
        · rw [rd_o (by decide), rd_o (by decide), rd_eq]; congr 1; omega
      · obtain ⟨c1, c2, c3, c4, c5, c6⟩ := b4 j h0 (by omega)
        have nz : q j ≠ s' := nr j (by omega)
        rw [if_neg z, if_neg z, if_neg z, if_neg z, if_neg (show ¬ pi j = t by omega), if_neg (show ¬ pi j = t by omega), if_neg (show ¬ pi j = t by omega)]
        refine ⟨c1, ?_, ?_, c4, c5, by omega⟩
        · rw [rd_o (by decide), rd_o (by decide), rd_o (by decide), rd_j nz]; exact c2
        · rw [rd_o (by decide), rd_o (by decide), rd_j nz, rd_o (by decide)]; exact c3
    · intro i j hij hj
      dsimp only
      rw [if_neg (show ¬ i = t by omega)]
      by_cases z : j = t
      · rw [if_pos z]
        have := ln (show i < t by omega)
        rcases this with z2 | z2
        · exact z2
        · rw [z2.1, b2.2.1]; omega
      · rw [if_neg z]; exact b5 i j hij (by omega)
    · intro s h30 hn
      have hne : s ≠ s' := fun z => hn t (by omega) (by dsimp only; rw [if_pos rfl, z])
      rw [rd_o (by decide), rd_o (by decide), rd_o (by decide), rd_j hne]
      exact b6 s h30 (fun j hj z => hn j (by omega) (by dsimp only; rw [if_neg (by omega)]; exact z))
    · intro i j hi hj z
      try dsimp only at z
      by_cases zi : i = t
      · by_cases zj : j = t
        · omega
        · rw [if_pos zi, if_neg zj] at z; exact absurd z.symm (nr j (by omega))
      · by_cases zj : j = t
        · rw [if_neg zi, if_pos zj] at z; exact absurd z (nr i (by omega))
        · rw [if_neg zi, if_neg zj] at z; exact b7 i j (by omega) (by omega) z
    · intro i v x hi hv hd
      have hit : i ≠ t := by omega
      dsimp only at hd ⊢
      rw [if_neg hit] at hd ⊢
      by_cases z : i = h ∧ v = u
      · rw [z.1, z.2, e] at hd
        cases hd
        exact ⟨t, by omega, by rw [if_pos rfl], by rw [if_pos rfl, z.1, z.2]; omega⟩
      · obtain ⟨j, j1, j2, j3⟩ := b8 i v x (by omega) hv hd
        exact ⟨j, by omega, by rw [if_neg (by omega)]; exact j2, by rw [if_neg (by omega)]; exact j3⟩
    · intro i hi
      dsimp only
      rw [if_neg (by omega)]; exact b9 i hi
/-- every word leads to a place of the queue that was reached by no later word, or lies behind the head -/
theorem Bq.cover (B : Bq w D t h 0 q wd pi le) : ∀ n y s, ru D n y = some s → (∃ j, j < t ∧ q j = s ∧ wd j ≤ y) ∨ (h < t ∧ wd h ≤ y) := by
  obtain ⟨b1, b2, b3, b4, b5, b6, b7, b8, b9⟩ := B
  intro n
  induction n with
  | zero =>
    intro y s e
    unfold ru at e
    by_cases z : y = 1
    · rw [if_pos z] at e; cases e
      exact Or.inl ⟨0, by omega, b2.1, by rw [b2.2.1]; omega⟩
    · rw [if_neg z] at e; cases e
  | succ n ih =>
    intro y s e
    unfold ru at e
    cases e0 : ru D n (y / 8) with
    | none => rw [e0] at e; cases e
    | some s0 =>
      rw [e0] at e
      dsimp only at e
      rcases ih (y / 8) s0 e0 with ⟨j, j1, j2, j3⟩ | ⟨j1, j2⟩
      · rcases Nat.lt_or_ge j h with c | c
        · obtain ⟨j', k1, k2, k3⟩ := b8 j (y % 8) s (Or.inl c) (by omega) (by rw [j2]; exact e)
          exact Or.inl ⟨j', k1, k2, by omega⟩
        · refine Or.inr ⟨by omega, ?_⟩
          rcases Nat.lt_or_ge h j with c2 | c2
          · have := b5 h j c2 j1; omega
          · have : h = j := by omega
            rw [this]; omega
      · exact Or.inr ⟨j1, by omega⟩
end BFS

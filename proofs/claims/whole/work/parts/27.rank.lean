/-! The ranking, the judged code. -/
def keyN (r : Rn) : Nat := 1000 * (2 - grp r) + r.2.2.2.2.1
def ahd (k : Nat → Nat) (a b : Nat) : Bool := decide (k b < k a ∨ (k a = k b ∧ a < b))
def pos (p : Nat → Bool) : Nat → Nat
  | 0 => 0
  | n + 1 => pos p n + (if p n = true then 1 else 0)
def posOf (k : Nat → Nat) (n c : Nat) : Nat := pos (fun o => ahd k o c) n
theorem pos_le (p : Nat → Bool) : ∀ n, pos p n ≤ n := by
  intro n
  induction n with
  | zero => exact Nat.le_refl _
  | succ n ih => unfold pos; split <;> omega
theorem pos_mono {p q : Nat → Bool} (h : ∀ o, p o = true → q o = true) : ∀ n, pos p n ≤ pos q n := by
  intro n
  induction n with
  | zero => exact Nat.le_refl _
  | succ n ih =>
    unfold pos
    by_cases hp : p n = true
    · rw [if_pos hp, if_pos (h n hp)]; omega
    · rw [if_neg hp]; split <;> omega
theorem pos_lt {p q : Nat → Bool} (h : ∀ o, p o = true → q o = true) {a : Nat} (ha : q a = true) (hb : ¬ p a = true) : ∀ n, a < n → pos p n < pos q n := by
  intro n
  induction n with
  | zero => intro h; omega
  | succ n ih =>
    intro hn
    unfold pos
    by_cases e : a = n
    · subst e
      rw [if_neg hb, if_pos ha]
      have := pos_mono h a
      omega
    · have := ih (by omega)
      by_cases hp : p n = true
      · rw [if_pos hp, if_pos (h n hp)]; omega
      · rw [if_neg hp]; split <;> omega
theorem ahd_iff {k : Nat → Nat} {a b : Nat} : ahd k a b = true ↔ (k b < k a ∨ (k a = k b ∧ a < b)) := by unfold ahd; exact decide_eq_true_iff
theorem posOf_lt (k : Nat → Nat) {n c : Nat} (hc : c < n) : posOf k n c < n := by
  have h1 : posOf k n c < pos (fun _ => true) n := pos_lt (a := c) (fun _ _ => rfl) rfl (fun h => by have := ahd_iff.mp h; omega) n hc
  have h2 := pos_le (fun _ => true) n
  omega
theorem posOf_ahd (k : Nat → Nat) {n a b : Nat} (ha : a < n) (h : k b < k a ∨ (k a = k b ∧ a < b)) : posOf k n a < posOf k n b :=
  pos_lt (p := fun o => ahd k o a) (q := fun o => ahd k o b) (a := a) (fun o h2 => by have h3 := ahd_iff.mp h2; exact ahd_iff.mpr (by omega)) (ahd_iff.mpr h) (fun h2 => by have h3 := ahd_iff.mp h2; omega) n ha
theorem posOf_inj (k : Nat → Nat) {n a b : Nat} (ha : a < n) (hb : b < n) (h : posOf k n a = posOf k n b) : a = b := by
  by_cases e : a = b
  · exact e
  · exfalso
    by_cases q : k b < k a ∨ (k a = k b ∧ a < b)
    · have := posOf_ahd k ha q; omega
    · have := posOf_ahd k hb (show k a < k b ∨ (k b = k a ∧ b < a) by omega); omega
theorem pigF : ∀ a b c d p : Fin 4, a ≠ b → a ≠ c → a ≠ d → b ≠ c → b ≠ d → c ≠ d → a = p ∨ b = p ∨ c = p ∨ d = p := by decide
theorem pig4 (a : Nat) (ha : a < 4) (b : Nat) (hb : b < 4) (c : Nat) (hc : c < 4) (d : Nat) (hd : d < 4) (h1 : a ≠ b) (h2 : a ≠ c) (h3 : a ≠ d) (h4 : b ≠ c) (h5 : b ≠ d) (h6 : c ≠ d) (p : Nat) (hp : p < 4) : a = p ∨ b = p ∨ c = p ∨ d = p := by
  have := pigF ⟨a, ha⟩ ⟨b, hb⟩ ⟨c, hc⟩ ⟨d, hd⟩ ⟨p, hp⟩ (fun h => h1 (Fin.mk.inj h)) (fun h => h2 (Fin.mk.inj h)) (fun h => h3 (Fin.mk.inj h)) (fun h => h4 (Fin.mk.inj h)) (fun h => h5 (Fin.mk.inj h)) (fun h => h6 (Fin.mk.inj h))
  rcases this with h | h | h | h
  · exact Or.inl (Fin.mk.inj h)
  · exact Or.inr (Or.inl (Fin.mk.inj h))
  · exact Or.inr (Or.inr (Or.inl (Fin.mk.inj h)))
  · exact Or.inr (Or.inr (Or.inr (Fin.mk.inj h)))
theorem posOf_sur (k : Nat → Nat) {n p : Nat} (hn : n ≤ 4) (hp : p < n) : ∃ c, c < n ∧ posOf k n c = p := by
  have lt := fun c (h : c < n) => posOf_lt k h
  have inj := fun a b (ha : a < n) (hb : b < n) => posOf_inj k (n := n) (a := a) (b := b) ha hb
  rcases (show n = 1 ∨ n = 2 ∨ n = 3 ∨ n = 4 by omega) with rfl | rfl | rfl | rfl
  · exact ⟨0, by omega, by have := lt 0 (by omega); omega⟩
  · have l0 := lt 0 (by omega)
    have l1 := lt 1 (by omega)
    have i1 := inj 0 1 (by omega) (by omega)
    by_cases e : posOf k 2 0 = p
    · exact ⟨0, by omega, e⟩
    · exact ⟨1, by omega, by omega⟩
  · have l0 := lt 0 (by omega)
    have l1 := lt 1 (by omega)
    have l2 := lt 2 (by omega)
    have i1 := inj 0 1 (by omega) (by omega)
    have i2 := inj 0 2 (by omega) (by omega)
    have i3 := inj 1 2 (by omega) (by omega)
    by_cases e : posOf k 3 0 = p
    · exact ⟨0, by omega, e⟩
    · by_cases e2 : posOf k 3 1 = p
      · exact ⟨1, by omega, e2⟩
      · exact ⟨2, by omega, by omega⟩
  · have := pig4 _ (lt 0 (by omega)) _ (lt 1 (by omega)) _ (lt 2 (by omega)) _ (lt 3 (by omega)) (fun h => by have := inj 0 1 (by omega) (by omega) h; omega) (fun h => by have := inj 0 2 (by omega) (by omega) h; omega) (fun h => by have := inj 0 3 (by omega) (by omega) h; omega) (fun h => by have := inj 1 2 (by omega) (by omega) h; omega) (fun h => by have := inj 1 3 (by omega) (by omega) h; omega) (fun h => by have := inj 2 3 (by omega) (by omega) h; omega) p hp
    rcases this with h | h | h | h
    · exact ⟨0, by omega, h⟩
    · exact ⟨1, by omega, h⟩
    · exact ⟨2, by omega, h⟩
    · exact ⟨3, by omega, h⟩
def kyF (us : Nat → Nat) (C : Nat → Cd) (cm : Nat) : Nat → Nat := fun c => keyN (rn (C c) us cm)
theorem grp_le (r : Rn) : grp r ≤ 2 := by unfold grp; repeat' split
                                          all_goals omega
section RANK
variable {w : Wd} {cm ln n : Nat} {us : Nat → Nat} {C : Nat → Cd}
theorem XC.ahead (h : XC w cm ln n us C) {a b : Nat} (ha : a < n) (hb : b < n) : X6_isAhead w (iI (a : Nat)) (iI (b : Nat)) = some (bE (ahd (kyF us C cm) a b)) := by
  have hn := h.1
  have hcm : cm ≤ 40 := by have := h.2.2.1; have := h.2.2.2.1; omega
  have ba := (h.bd ha).2.2.1
  have bb := (h.bd hb).2.2.1
  have g1 := grp_le (rn (C a) us cm)
  have g2 := grp_le (rn (C b) us cm)
  unfold X6_isAhead
  simp only [ix_n (show a < 4 by omega) (show (4 : Nat) < 2147483648 by decide), ix_n (show b < 4 by omega) (show (4 : Nat) < 2147483648 by decide), h.group ha, h.group hb, h.weight ha, h.weight hb, ob_s]
  have hk : ∀ c, kyF us C cm c = 1000 * (2 - grp (rn (C c) us cm)) + (rn (C c) us cm).2.2.2.2.1 := fun c => rfl
  generalize hA : (rn (C a) us cm).2.2.2.2.1 = wa at *
  generalize hB : (rn (C b) us cm).2.2.2.2.1 = wb at *
  have ka := hk a
  have kb := hk b
  rw [hA] at ka
  rw [hB] at kb
  by_cases e : grp (rn (C a) us cm) = grp (rn (C b) us cm)
  · rw [if_pos (yE (by omega))]
    by_cases e2 : wa = wb
    · rw [if_pos (yE (by omega))]
      by_cases e3 : b ≤ a
      · rw [if_pos (yL (by omega) (by omega) (by omega)), show ahd (kyF us C cm) a b = false from decide_eq_false (by omega)]; rfl
      · rw [if_neg (nL (by omega) (by omega) (by omega)), show ahd (kyF us C cm) a b = true from decide_eq_true (by omega)]; rfl
    · rw [if_neg (nE (by omega) (by omega) (by omega))]
      by_cases e3 : wa ≤ wb
      · rw [if_pos (yL (by omega) (by omega) (by omega)), show ahd (kyF us C cm) a b = false from decide_eq_false (by omega)]; rfl
      · rw [if_neg (nL (by omega) (by omega) (by omega)), show ahd (kyF us C cm) a b = true from decide_eq_true (by omega)]; rfl
  · rw [if_neg (nE (by omega) (by omega) (by omega))]
    by_cases e3 : grp (rn (C b) us cm) ≤ grp (rn (C a) us cm)
    · rw [if_pos (yL (by omega) (by omega) (by omega)), show ahd (kyF us C cm) a b = false from decide_eq_false (by omega)]; rfl
    · rw [if_neg (nL (by omega) (by omega) (by omega)), show ahd (kyF us C cm) a b = true from decide_eq_true (by omega)]; rfl
theorem XC.placeL (h : XC w cm ln n us C) {c : Nat} (hc : c < n) : ∀ d k fuel, k + d = n → d < fuel → X6_placeInRanking_L4 fuel (iI (c : Nat)) (iI (pos (fun o => ahd (kyF us C cm) o c) k : Nat)) (iI (k : Nat)) w = some (iI (posOf (kyF us C cm) n c : Nat)) := by
  have hn := h.1
  have h7 := h.2.2.2.2.1
  intro d
  induction d with
  | zero =>
    intro k fuel hd hf
    obtain ⟨f, rfl⟩ : ∃ f, fuel = f + 1 := ⟨fuel - 1, by omega⟩
    obtain rfl : k = n := by omega
    rw [X6_placeInRanking_L4, h7, if_pos (yL (by omega) (by omega) (by omega))]
    rfl
  | succ d ih =>
    intro k fuel hd hf
    obtain ⟨f, rfl⟩ : ∃ f, fuel = f + 1 := ⟨fuel - 1, by omega⟩
    have ih := ih (k + 1) f (by omega) (by omega)
    rw [X6_placeInRanking_L4, h7, if_neg (nL (by omega) (by omega) (by omega)), h.ahead (by omega) hc, ob_s]
    simp only [bE0, bnd_e, iI_add]
    unfold pos at ih
    by_cases e : ahd (kyF us C cm) k c = true
    · rw [if_neg (by simp [e])]
      rw [if_pos e] at ih
      exact ih
    · rw [if_pos e]
      rw [if_neg e] at ih
      exact ih
theorem XC.place (h : XC w cm ln n us C) {c : Nat} (hc : c < n) : X6_placeInRanking w (iI (c : Nat)) = some (iI (posOf (kyF us C cm) n c : Nat)) := by
  unfold X6_placeInRanking
  have hn := h.1
  exact h.placeL hc n 0 1000 (by omega) (by omega)
theorem MC.key (h : MC w cm ln n us C) {c : Nat} (hc : c < n) : ∃ w', X7_rankKey w (iI (c : Nat)) = some (iI (kyF us C cm c : Nat), w') ∧ Fr ScM w w' := by
  obtain ⟨w', e1, e2, e3⟩ := h.valid hc
  have bd := h.bd hc
  refine ⟨w', ?_, e2⟩
  unfold X7_rankKey
  rw [e1, bI_s]
  simp only [bE0]
  have hk : kyF us C cm c = 1000 * (2 - grp (rn (C c) us cm)) + (rn (C c) us cm).2.2.2.2.1 := rfl
  rw [hk, e3.2.2.2.1, e3.1, iI_mul, iI_mul, iI_mul, iI_add, iI_add, iI_add]
  unfold grp
  by_cases hv : rVal (rn (C c) us cm) = true
  · rw [if_neg (by simp [hv]), if_pos hv]; congr 3
  · rw [if_pos hv, if_neg hv]
    cases ea : (rn (C c) us cm).1 with
    | false => rw [if_neg (show ¬ false = true by decide), if_pos rfl, if_neg (by decide)]; congr 3
    | true => rw [if_pos (show true = true from rfl), if_neg (nE (by omega) (by omega) (by omega)), if_pos rfl]; congr 3
theorem MC.ahead (h : MC w cm ln n us C) {a b : Nat} (ha : a < n) (hb : b < n) : ∃ w', X7_isAhead w (iI (a : Nat)) (iI (b : Nat)) = some (bE (ahd (kyF us C cm) a b), w') ∧ Fr ScM w w' := by
  have hn := h.1
  have hcm : cm ≤ 40 := by have := h.2.2.1; have := h.2.2.2.1; omega
  obtain ⟨w1, e1, e2⟩ := h.key ha
  obtain ⟨w2, e3, e4⟩ := (h.fr e2).key hb
  refine ⟨w2, ?_, e2.tr e4⟩
  have ba := (h.bd ha).2.2.1
  have bb := (h.bd hb).2.2.1
  have ka : kyF us C cm a < 10000 := by show 1000 * (2 - grp (rn (C a) us cm)) + (rn (C a) us cm).2.2.2.2.1 < 10000; omega
  have kb : kyF us C cm b < 10000 := by show 1000 * (2 - grp (rn (C b) us cm)) + (rn (C b) us cm).2.2.2.2.1 < 10000; omega
  unfold X7_isAhead
  rw [e1, bI_s, e3, bI_s]
  by_cases q1 : kyF us C cm b < kyF us C cm a
  · rw [if_pos (yT (by omega) (by omega) (by omega)), show ahd (kyF us C cm) a b = true from decide_eq_true (by omega)]; rfl
  · rw [if_neg (nT (by omega) (by omega) (by omega))]
    by_cases q2 : kyF us C cm a = kyF us C cm b
    · rw [if_pos (yE (by omega))]
      by_cases e3 : b ≤ a
      · rw [if_pos (yL (by omega) (by omega) (by omega)), show ahd (kyF us C cm) a b = false from decide_eq_false (by omega)]; rfl
      · rw [if_neg (nL (by omega) (by omega) (by omega)), show ahd (kyF us C cm) a b = true from decide_eq_true (by omega)]; rfl
    · rw [if_neg (nE (by omega) (by omega) (by omega)), show ahd (kyF us C cm) a b = false from decide_eq_false (by omega)]; rfl
theorem MC.rankL (h : MC w cm ln n us C) {c : Nat} (hc : c < n) : ∀ d k fuel w1, k + d = n → d < fuel → Fr ScM w w1 → ∃ w', X7_rankOf_L4 fuel (iI (c : Nat)) (iI (pos (fun o => ahd (kyF us C cm) o c) k : Nat)) (iI (k : Nat)) w1 = some (iI (posOf (kyF us C cm) n c : Nat), w') ∧ Fr ScM w w' := by
  have hn := h.1
  intro d
  induction d with
  | zero =>
    intro k fuel w1 hd hf f1
    obtain ⟨f, rfl⟩ : ∃ f, fuel = f + 1 := ⟨fuel - 1, by omega⟩
    obtain rfl : k = n := by omega
    rw [X7_rankOf_L4, (h.fr f1).2.2.2.2.1, if_pos (yL (by omega) (by omega) (by omega))]
    exact ⟨w1, rfl, f1⟩
  | succ d ih =>
    intro k fuel w1 hd hf f1
    obtain ⟨f, rfl⟩ : ∃ f, fuel = f + 1 := ⟨fuel - 1, by omega⟩
    rw [X7_rankOf_L4, (h.fr f1).2.2.2.2.1, if_neg (nL (by omega) (by omega) (by omega))]
    by_cases ekc : k = c
    · have ih := ih (k + 1) f w1 (by omega) (by omega) f1
      unfold pos at ih
      rw [if_neg (show ¬ ahd (kyF us C cm) k c = true from fun h => by have := ahd_iff.mp h; rw [ekc] at this; omega)] at ih
      rw [if_pos (yE (by omega))]
      simp only [bnd_e, iI_add]
      exact ih
    · rw [if_neg (nE (by omega) (by omega) (by omega))]
      obtain ⟨w2, e1, e2⟩ := (h.fr f1).ahead (show k < n by omega) hc
      have ih := ih (k + 1) f w2 (by omega) (by omega) (f1.tr e2)
      rw [e1, bI_s]
      simp only [bE0, bnd_e, iI_add]
      unfold pos at ih
      by_cases e : ahd (kyF us C cm) k c = true
      · rw [if_neg (by simp [e])]
        rw [if_pos e] at ih
        exact ih
      · rw [if_pos e]
        rw [if_neg e] at ih
        exact ih
theorem MC.rankOf (h : MC w cm ln n us C) {c : Nat} (hc : c < n) : ∃ w', X7_rankOf w (iI (c : Nat)) = some (iI (posOf (kyF us C cm) n c : Nat), w') ∧ Fr ScM w w' := by
  unfold X7_rankOf
  have hn := h.1
  exact h.rankL hc n 0 1000 w (by omega) (by omega) (Fr.rf _ w)
/-- the class's search for the code of a place -/
theorem XC.rankL (h : XC w cm ln n us C) {z : Int} (hz : inR z) : ∀ d k fuel, k + d = n → d < fuel → (∀ o, o < k → (posOf (kyF us C cm) n o : Int) ≠ z) → (∀ c, c < n → (posOf (kyF us C cm) n c : Int) = z → X6_rank_L2 fuel (iI z) (iI (k : Nat)) w = some (iI (c : Nat))) ∧ ((∀ c, c < n → (posOf (kyF us C cm) n c : Int) ≠ z) → X6_rank_L2 fuel (iI z) (iI (k : Nat)) w = some (iI (-101))) := by
  have hn := h.1
  have h7 := h.2.2.2.2.1
  intro d
  induction d with
  | zero =>
    intro k fuel hd hf hk
    obtain ⟨f, rfl⟩ : ∃ f, fuel = f + 1 := ⟨fuel - 1, by omega⟩
    obtain rfl : k = n := by omega
    rw [X6_rank_L2, h7, if_pos (yL (by omega) (by omega) (by omega))]
    exact ⟨fun c hc e => absurd e (hk c hc), fun _ => rfl⟩
  | succ d ih =>
    intro k fuel hd hf hk
    obtain ⟨f, rfl⟩ : ∃ f, fuel = f + 1 := ⟨fuel - 1, by omega⟩
    have hlt := posOf_lt (kyF us C cm) (show k < n by omega)
    rw [X6_rank_L2, h7, if_neg (nL (by omega) (by omega) (by omega)), h.place (show k < n by omega), ob_s, bnd_e, iI_add]
    by_cases e : (posOf (kyF us C cm) n k : Int) = z
    · rw [if_pos (yE (by omega))]
      refine ⟨fun c hc e2 => ?_, fun hh => absurd e (hh k (by omega))⟩
      have := posOf_inj (kyF us C cm) (n := n) (a := c) (b := k) hc (by omega) (by omega)
      rw [this]
    · rw [if_neg (nE (by omega) (by omega) hz)]
      exact ih (k + 1) f (by omega) (by omega) (fun o ho => by
        by_cases eo : o = k
        · subst eo; exact e
        · exact hk o (by omega))
theorem XC.rank (h : XC w cm ln n us C) {z : Int} (hz : inR z) : (∀ c, c < n → (posOf (kyF us C cm) n c : Int) = z → X6_rank w (iI z) = some (iI (c : Nat))) ∧ (¬ (0 ≤ z ∧ z < n) → X6_rank w (iI z) = some (iI (-101))) := by
  unfold X6_rank
  have hn := h.1
  obtain ⟨a, b⟩ := h.rankL hz n 0 1000 (by omega) (by omega) (fun o ho => by omega)
  refine ⟨a, fun hh => b (fun c hc e => ?_)⟩
  have := posOf_lt (kyF us C cm) hc
  omega
theorem MC.rankS (h : MC w cm ln n us C) {c : Nat} (hc : c < n) : ∀ d k fuel w1, k + d = c → d < fuel → Fr ScM w w1 → ∃ w', X7_rank_L19 fuel (iI (posOf (kyF us C cm) n c : Nat)) (iI (k : Nat)) w1 = some (iI (c : Nat), w') ∧ Fr ScM w w' := by
  have hn := h.1
  intro d
  induction d with
  | zero =>
    intro k fuel w1 hd hf f1
    obtain ⟨f, rfl⟩ : ∃ f, fuel = f + 1 := ⟨fuel - 1, by omega⟩
    obtain rfl : k = c := by omega
    obtain ⟨w2, e1, e2⟩ := (h.fr f1).rankOf hc
    rw [X7_rank_L19, e1, bI_s, if_pos rfl]
    exact ⟨w2, rfl, f1.tr e2⟩
  | succ d ih =>
    intro k fuel w1 hd hf f1
    obtain ⟨f, rfl⟩ : ∃ f, fuel = f + 1 := ⟨fuel - 1, by omega⟩
    obtain ⟨w2, e1, e2⟩ := (h.fr f1).rankOf (show k < n by omega)
    have l1 := posOf_lt (kyF us C cm) hc
    have l2 := posOf_lt (kyF us C cm) (show k < n by omega)
    rw [X7_rank_L19, e1, bI_s, if_neg (nE (fun q => by have := posOf_inj (kyF us C cm) (n := n) (a := k) (b := c) (by omega) hc (by omega); omega) (by omega) (by omega)), bnd_e, iI_add]
    exact ih (k + 1) f w2 (by omega) (by omega) (f1.tr e2)
end RANK
theorem op_rank {w : Wd} (h : Rel w) (a : Int32) : ∃ r w2, X6_rank w a = some r ∧ X7_rank w a = some (r, w2) ∧ Rel w2 := by
  obtain ⟨pl, cm, ln, n, us, pg, C, hR⟩ := id h
  obtain ⟨z, hz, rfl⟩ := iI_ex a
  have hn := hR.mc.1
  obtain ⟨x1, x2⟩ := hR.xc.rank hz
  have wi := wi_iff (a := z) (b := 0) (c := (n : Int) - 1) hz (by decide) (by omega)
  unfold X7_rank
  rw [hR.mc.2.2.2.2.1, iI_sub]
  by_cases out : 0 ≤ z ∧ z < n
  · obtain ⟨p, rfl⟩ : ∃ p : Nat, z = p := ⟨z.toNat, by omega⟩
    obtain ⟨c, hc, hp⟩ := posOf_sur (kyF us C cm) hn (show p < n by omega)
    subst hp
    obtain ⟨w2, e1, e2⟩ := hR.mc.rankS hc c 0 1000 w (by omega) (by omega) (Fr.rf _ w)
    exact ⟨_, w2, x1 c hc rfl, by rw [if_neg (fun q => wi.mp q (by omega))]; exact e1, pl, cm, ln, n, us, pg, C, hR.fr (scM_sc e2)⟩
  · exact ⟨_, w, x2 out, by rw [if_pos (wi.mpr (by omega))], h⟩
/-- the judged code: none, or the valid one that no valid one is preferred to -/
def JD (us : Nat → Nat) (C : Nat → Cd) (cm k : Nat) (b : Int) : Prop := (b = -1 ∧ ∀ c, c < k → rVal (rn (C c) us cm) = false) ∨ ∃ j : Nat, b = j ∧ j < k ∧ rVal (rn (C j) us cm) = true ∧ ∀ c, c < k → rVal (rn (C c) us cm) = true → (rn (C c) us cm).2.2.2.2.1 < (rn (C j) us cm).2.2.2.2.1 ∨ ((rn (C c) us cm).2.2.2.2.1 = (rn (C j) us cm).2.2.2.2.1 ∧ j ≤ c)
section JUDGE
variable {w : Wd} {cm ln n : Nat} {us : Nat → Nat} {C : Nat → Cd}
theorem MC.judgeL (h : MC w cm ln n us C) : ∀ d k fuel w1 (b most : Int), k + d = n → d < fuel → Fr ScM w w1 → JD us C cm k b → (b = -1 → most = -1) → (∀ j : Nat, b = j → most = (rn (C j) us cm).2.2.2.2.1) → ∃ w' b', X7_judgedNow_L6 fuel (iI b) (iI most) (iI (k : Nat)) w1 = some (iI b', w') ∧ Fr ScM w w' ∧ JD us C cm n b' := by
  have hn := h.1
  have hcm : cm ≤ 40 := by have := h.2.2.1; have := h.2.2.2.1; omega
  intro d
  induction d with
  | zero =>
    intro k fuel w1 b most hd hf f1 hj h1 h2
    obtain ⟨f, rfl⟩ : ∃ f, fuel = f + 1 := ⟨fuel - 1, by omega⟩
    obtain rfl : k = n := by omega
    rw [X7_judgedNow_L6, (h.fr f1).2.2.2.2.1, if_pos (yL (by omega) (by omega) (by omega))]
    exact ⟨w1, b, rfl, f1, hj⟩
  | succ d ih =>
    intro k fuel w1 b most hd hf f1 hj h1 h2
    obtain ⟨f, rfl⟩ : ∃ f, fuel = f + 1 := ⟨fuel - 1, by omega⟩
    obtain ⟨w2, e1, e2, e3⟩ := (h.fr f1).valid (show k < n by omega)
    have bd := (h.bd (show k < n by omega)).2.2.1
    have bm : -1 ≤ most ∧ most ≤ 360 := by
      rcases hj with ⟨hb, -⟩ | ⟨j, hb, hjk, -⟩
      · have := h1 hb; omega
      · have := h2 j hb
        have := (h.bd (show j < n by omega)).2.2.1
        omega
    rw [X7_judgedNow_L6, (h.fr f1).2.2.2.2.1, if_neg (nL (by omega) (by omega) (by omega)), e1, bI_s, e3.2.2.2.1]
    simp only [bE0, bnd_e, iI_add]
    by_cases hv : rVal (rn (C k) us cm) = true
    · rw [if_neg (by simp [hv])]
      by_cases hle : ((rn (C k) us cm).2.2.2.2.1 : Int) ≤ most
      · rw [if_pos (yL hle (by omega) (by omega))]
        refine ih (k + 1) f w2 b most (by omega) (by omega) (f1.tr e2) ?_ h1 h2
        rcases hj with ⟨hb, hj⟩ | ⟨j, hb, hjk, hjv, hj⟩
        · have := h1 hb; omega
        · have := h2 j hb
          refine Or.inr ⟨j, hb, by omega, hjv, fun c hc hcv => ?_⟩
          by_cases eck : c = k
          · subst eck; omega
          · exact hj c (by omega) hcv
      · rw [if_neg (nL (by omega) (by omega) (by omega))]
        refine ih (k + 1) f w2 (k : Int) _ (by omega) (by omega) (f1.tr e2) ?_ (fun h => by omega) (fun j hj => by
          have : k = j := by omega
          rw [this])
        refine Or.inr ⟨k, rfl, by omega, hv, fun c hc hcv => ?_⟩
        by_cases eck : c = k
        · subst eck; omega
        · rcases hj with ⟨hb, hj⟩ | ⟨j, hb, hjk, hjv, hj⟩
          · have := hj c (by omega); rw [hcv] at this; cases this
          · have := h2 j hb
            have := hj c (by omega) hcv
            omega
    · rw [if_pos hv]
      refine ih (k + 1) f w2 b most (by omega) (by omega) (f1.tr e2) ?_ h1 h2
      rcases hj with ⟨hb, hj⟩ | ⟨j, hb, hjk, hjv, hj⟩
      · refine Or.inl ⟨hb, fun c hc => ?_⟩
        by_cases eck : c = k
        · subst eck; simpa using hv
        · exact hj c (by omega)
      · refine Or.inr ⟨j, hb, by omega, hjv, fun c hc hcv => ?_⟩
        by_cases eck : c = k
        · subst eck; exact absurd hcv hv
        · exact hj c (by omega) hcv
theorem MC.judged (h : MC w cm ln n us C) : ∃ w' b, X7_judgedNow w = some (iI b, w') ∧ Fr ScM w w' ∧ JD us C cm n b := by
  unfold X7_judgedNow
  have hn := h.1
  exact h.judgeL n 0 1000 w (-1) (-1) (by omega) (by omega) (Fr.rf _ w) (Or.inl ⟨rfl, fun c hc => by omega⟩) (fun _ => rfl) (fun j hj => by omega)
theorem XC.judged (h : XC w cm ln n us C) {b : Int} (hj : JD us C cm n b) : X6_judged w = some (iI b) := by
  have hn := h.1
  have hcm : cm ≤ 40 := by have := h.2.2.1; have := h.2.2.2.1; omega
  obtain ⟨x1, x2⟩ := h.rank (z := 0) (by decide)
  unfold X6_judged
  rcases hj with ⟨rfl, hj⟩ | ⟨j, rfl, hjk, hjv, hj⟩
  · by_cases h0 : n = 0
    · rw [x2 (by omega), ob_s, if_pos ((h.isCode (by decide)).mpr (by omega))]
    · obtain ⟨c, hc, hp⟩ := posOf_sur (kyF us C cm) hn (show 0 < n by omega)
      rw [x1 c hc (by omega), ob_s, if_neg (fun q => (h.isCode (by omega)).mp q (by omega)), ix_n (by omega) (by decide), h.valid hc, ob_s, hj c hc, if_pos (by decide)]
  · have hp : posOf (kyF us C cm) n j = 0 := by
      have key : ∀ c, kyF us C cm c = 1000 * (2 - grp (rn (C c) us cm)) + (rn (C c) us cm).2.2.2.2.1 := fun c => rfl
      have gj : grp (rn (C j) us cm) = 0 := by unfold grp; rw [if_pos hjv]
      have none : ∀ o, o < n → ahd (kyF us C cm) o j = false := by
        intro o ho
        cases e : ahd (kyF us C cm) o j with
        | false => rfl
        | true =>
          exfalso
          have := ahd_iff.mp e
          have bo := (h.bd ho).2.2.1
          rw [key, key, gj] at this
          by_cases ov : rVal (rn (C o) us cm) = true
          · have go : grp (rn (C o) us cm) = 0 := by unfold grp; rw [if_pos ov]
            have := hj o ho ov
            rw [go] at *
            omega
          · have go : 1 ≤ grp (rn (C o) us cm) := by unfold grp; rw [if_neg ov]; split <;> omega
            omega
      have all0 : ∀ k, k ≤ n → pos (fun o => ahd (kyF us C cm) o j) k = 0 := by
        intro k
        induction k with
        | zero => intro _; rfl
        | succ k ih => intro hk; unfold pos; rw [ih (by omega), if_neg (by rw [none k (by omega)]; decide)]
      exact all0 n (Nat.le_refl _)
    rw [x1 j hjk (by omega), ob_s, if_neg (fun q => (h.isCode (by omega)).mp q (by omega)), ix_n (by omega) (by decide), h.valid hjk, ob_s, hjv, if_neg (by decide)]
end JUDGE
theorem op_judged {w : Wd} (h : Rel w) : ∃ r w2, X6_judged w = some r ∧ X7_judged w = some (r, w2) ∧ Rel w2 := by
  obtain ⟨pl, cm, ln, n, us, pg, C, hR⟩ := id h
  obtain ⟨w2, b, e1, e2, e3⟩ := hR.mc.judged
  exact ⟨_, w2, hR.xc.judged e3, by unfold X7_judged; rw [e1, bI_s], pl, cm, ln, n, us, pg, C, hR.fr (scM_sc e2)⟩

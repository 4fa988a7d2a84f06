/-! sure: the class's answer. -/
def HB (x : Nat) (H : Nat → Bool) : Prop := x < 32 ∧ ∀ m, m < 5 → (x / 2 ^ m % 2 = 1 ↔ H m = true)
section HOPEX
variable {w : Wd} {g : Nat} {C : Cd} {H : Nat → Bool} {x : Nat}
theorem x_earU (cx : CodeX w g C) (hk : cok C) (hx : HB x H) {m : Nat} (hm : m < ms C) (K : Int32 → Int32 → Int32 → Int32 → Wd → Option Int32) :
    ∀ d u fuel y, u + d = 8 → d < fuel → HB y (fun m' => if m' < m then hpU C H m' 8 else if m' = m then hpU C H m u else false) → ∃ y', HB y' (fun m' => if m' < m + 1 then hpU C H m' 8 else false) ∧ X3_oneUnitEarlier_L19 fuel K g (iI (x : Nat)) (iI (y : Nat)) (iI (ms C : Nat)) (iI (m : Nat)) (iI (u : Nat)) w = K (iI (x : Nat)) (iI (y' : Nat)) (iI (ms C : Nat)) (iI (m : Nat)) w := by
  have hms := ms_le C
  intro d
  induction d with
  | zero =>
    intro u fuel y hd hf hy
    obtain ⟨f', rfl⟩ : ∃ f', fuel = f' + 1 := ⟨fuel - 1, by omega⟩
    obtain rfl : u = 8 := by omega
    rw [X3_oneUnitEarlier_L19, if_pos (by decide)]
    refine ⟨y, ⟨hy.1, fun m' hm' => ?_⟩, rfl⟩
    rw [hy.2 m' hm']
    dsimp only
    by_cases q : m' < m
    · rw [if_pos q, if_pos (by omega)]
    · rw [if_neg q]
      by_cases q2 : m' = m
      · subst q2; rw [if_pos rfl, if_pos (by omega)]
      · rw [if_neg q2, if_neg (by omega)]
  | succ d ih =>
    intro u fuel y hd hf hy
    obtain ⟨f', rfl⟩ : ∃ f', fuel = f' + 1 := ⟨fuel - 1, by omega⟩
    have eU : hpU C H m (u + 1) = (hpU C H m u || (match trc C m u with | none => false | some q => H q.1)) := rfl
    have stay : hpU C H m (u + 1) = hpU C H m u → ∃ y', HB y' (fun m' => if m' < m + 1 then hpU C H m' 8 else false) ∧ X3_oneUnitEarlier_L19 f' K g (iI (x : Nat)) (iI (y : Nat)) (iI (ms C : Nat)) (iI (m : Nat)) (iI ((u : Int) + 1)) w = K (iI (x : Nat)) (iI (y' : Nat)) (iI (ms C : Nat)) (iI (m : Nat)) w := by
      intro e
      refine ih (u + 1) f' y (by omega) (by omega) ?_
      rw [e]; exact hy
    rw [X3_oneUnitEarlier_L19, if_neg (nL (by omega) (by omega) (by omega)), x_nextMode cx hk (by omega) (show u < 8 by omega), ob_s]
    simp only [bnd_e, iI_add]
    cases e : trc C m u with
    | none =>
      rw [show oE (Option.map (fun q => q.1) (none : Option (Nat × Nat))) = iI (-1) from rfl, if_pos rfl]
      exact stay (by rw [eU, e]; simp)
    | some q =>
      obtain ⟨m', s⟩ := q
      obtain ⟨-, q1, q2⟩ := trc_ok hk (show u < 8 by omega) e
      rw [show oE (Option.map (fun q => q.1) (some (m', s))) = iI (m' : Nat) from rfl, if_neg (nE (by omega) (by omega) (by omega))]
      have bg := bit_get x hx.1 m' (by omega)
      rw [hx.2 m' (by omega)] at bg
      by_cases hH : H m' = true
      · rw [if_pos (bg.mpr hH), bit_or y hy.1 m (by omega)]
        have b2 := bit_or2 y hy.1 m (by omega)
        refine ih (u + 1) f' (y ||| 2 ^ m) (by omega) (by omega) ⟨b2.1, fun i hi => ?_⟩
        rw [b2.2 i hi, hy.2 i hi, eU, e]
        dsimp only
        rw [hH]
        by_cases z : i = m
        · subst z; simp
        · by_cases z2 : i < m
          · simp [z, z2]
          · simp [z, z2]
      · rw [if_neg (fun t => hH (bg.mp t))]
        exact stay (by rw [eU, e]; dsimp only; rw [Bool.not_eq_true] at hH; rw [hH]; simp)
theorem x_earM (cx : CodeX w g C) (hk : cok C) (hx : HB x H) : ∀ d m fuel y, m + d = ms C → d < fuel → HB y (fun m' => if m' < m then hpU C H m' 8 else false) → ∃ y', HB y' (fun m' => hpU C H m' 8) ∧ X3_oneUnitEarlier_L10 fuel g (iI (x : Nat)) (iI (y : Nat)) (iI (ms C : Nat)) (iI (m : Nat)) w = some (iI (y' : Nat)) := by
  have hms := ms_le C
  intro d
  induction d with
  | zero =>
    intro m fuel y hd hf hy
    obtain ⟨f', rfl⟩ : ∃ f', fuel = f' + 1 := ⟨fuel - 1, by omega⟩
    rw [X3_oneUnitEarlier_L10, if_pos (yL (by omega) (by omega) (by omega))]
    refine ⟨y, ⟨hy.1, fun m' hm' => ?_⟩, rfl⟩
    rw [hy.2 m' hm']
    dsimp only
    by_cases q : m' < m
    · rw [if_pos q]
    · rw [if_neg q]
      have : ∀ u, hpU C H m' u = false := by
        intro u
        induction u with
        | zero => rfl
        | succ u ih2 =>
          have t : trc C m' u = none := by unfold trc; rw [if_neg (by omega)]
          unfold hpU; rw [ih2, t]; rfl
      rw [this]
  | succ d ih =>
    intro m fuel y hd hf hy
    obtain ⟨f', rfl⟩ : ∃ f', fuel = f' + 1 := ⟨fuel - 1, by omega⟩
    obtain ⟨y2, a1, a2⟩ := x_earU cx hk hx (m := m) (by omega) (X3_oneUnitEarlier_L65 (X3_oneUnitEarlier_L10 f' g) g) 8 0 1000 y (by omega) (by omega) ⟨hy.1, fun m' hm' => by
      rw [hy.2 m' hm']
      dsimp only
      by_cases q : m' < m
      · rw [if_pos q, if_pos q]
      · rw [if_neg q, if_neg q]
        by_cases q2 : m' = m
        · rw [if_pos q2]; rfl
        · rw [if_neg q2]⟩
    rw [X3_oneUnitEarlier_L10, if_neg (nL (by omega) (by omega) (by omega)), show (iI 0 : Int32) = iI ((0 : Nat) : Int) from rfl, a2]
    unfold X3_oneUnitEarlier_L65
    rw [bnd_e, iI_add]
    exact ih (m + 1) f' y2 (by omega) (by omega) a1
theorem x_earlier (cx : CodeX w g C) (hk : cok C) (hx : HB x H) : ∃ y', HB y' (fun m' => hpU C H m' 8) ∧ X3_oneUnitEarlier w g (iI (x : Nat)) = some (iI (y' : Nat)) := by
  have hms := ms_le C
  unfold X3_oneUnitEarlier X0_modes
  rw [bnd_e, cx.2.2.1]
  exact x_earM cx hk hx (ms C) 0 1000 0 (by omega) (by omega) ⟨by omega, fun m hm => by dsimp only; rw [if_neg (by omega)]; simp⟩
end HOPEX
section SUREX2
variable {w : Wd} {cm ln n : Nat} {us : Nat → Nat} {C : Nat → Cd}
theorem XC.lastHopeL (h : XC w cm ln n us C) {a : Nat} (ha : a < n) :
    ∀ e fuel x, e ≤ ln + 1 → e < fuel → HB x (hp (C a) (ln + 1 - e)) → (∀ N, e ≤ N → N ≤ ln → ¬ hope (C a) us cm ln N) → ∃ r : Int, X3_lastHope_L5 fuel (a + 5) (iI (x : Nat)) (iI ((e : Int) - 1)) w = some (iI r) ∧ -1 ≤ r ∧ r ≤ ln ∧ ∀ N, N ≤ ln → (hope (C a) us cm ln N ↔ (N : Int) ≤ r) := by
  obtain ⟨h1, h2, h3, h4, h5, h6, h7, h8, h9⟩ := id h
  have hu : ∀ j, j < cm → us j < 8 := fun j hj => (h8 j hj).1
  obtain ⟨ka, xa, -⟩ := h9 a ha
  have hma := ms_le (C a)
  intro e
  induction e with
  | zero =>
    intro fuel x he hf hx hn
    obtain ⟨f', rfl⟩ : ∃ f', fuel = f' + 1 := ⟨fuel - 1, by omega⟩
    rw [X3_lastHope_L5, if_pos (yT0 (by omega) (by omega))]
    exact ⟨-1, rfl, by omega, by omega, fun N hN => ⟨fun q => absurd q (hn N (by omega) hN), fun q => by omega⟩⟩
  | succ e ih =>
    intro fuel x he hf hx hn
    obtain ⟨f', rfl⟩ : ∃ f', fuel = f' + 1 := ⟨fuel - 1, by omega⟩
    obtain ⟨y, b1, b2⟩ := x_earlier xa ka hx
    have b1' : HB y (hp (C a) (ln + 1 - e)) := by
      rw [show ln + 1 - e = ln + 1 - (e + 1) + 1 by omega]; exact b1
    have hidx : ((e + 1 : Nat) : Int) - 1 = (e : Nat) := by omega
    have next : ¬ hope (C a) us cm ln e → ∃ r : Int, (ob (X3_oneUnitEarlier w (a + 5 - 4) (iI (x : Nat))) fun r_2 => bnd (iI (e : Nat) + iI (-1)) fun x_3 => X3_lastHope_L5 f' (a + 5) r_2 x_3 w) = some (iI r) ∧ -1 ≤ r ∧ r ≤ ln ∧ ∀ N, N ≤ ln → (hope (C a) us cm ln N ↔ (N : Int) ≤ r) := by
      intro hnb
      rw [show a + 5 - 4 = a + 1 by omega, b2, ob_s, bnd_e, iI_add, show (e : Int) + -1 = (e : Int) - 1 by omega]
      exact ih f' y (by omega) (by omega) b1' (fun N x y => by
        by_cases q : N = e
        · rw [q]; exact hnb
        · exact hn N (by omega) y)
    rw [X3_lastHope_L5, hidx, if_neg (nT0 (by omega) (by omega)), h.stateAt ha (by omega), ob_s]
    cases ea : stt (C a) us cm e with
    | none =>
      rw [show oE none = iI (-1) from rfl, if_pos rfl]
      exact next (fun q => by obtain ⟨p, q1, -⟩ := q; rw [ea] at q1; cases q1)
    | some p =>
      have hp1 := (stt_lt ka hu ea).1
      have hmo : X0_modeOf (iI (p : Nat)) = iI ((p / 3 : Nat) : Int) := by
        unfold X0_modeOf
        rw [iI_div (by omega) (by omega) (by decide) (by decide)]; congr 1
      have bg := bit_get x hx.1 (p / 3) (by omega)
      rw [hx.2 _ (by omega), show ln + 1 - (e + 1) = ln - e by omega] at bg
      rw [show oE (some p) = iI (p : Nat) from rfl, if_neg (nE (by omega) (by omega) (by omega)), hmo]
      by_cases hH : hp (C a) (ln - e) (p / 3) = true
      · rw [if_pos (bg.mpr hH)]
        exact ⟨e, rfl, by omega, by omega, fun N hN => ⟨fun t => by
          rcases Nat.lt_or_ge e N with c | c
          · exact absurd t (hn N (by omega) hN)
          · omega, fun t => hope_downs ka hu (show e ≤ ln by omega) ⟨p, ea, hH⟩ (e - N) N (by omega)⟩⟩
      · rw [if_neg (fun t => hH (bg.mp t))]
        exact next (fun q => by obtain ⟨p', q1, q2⟩ := q; rw [ea] at q1; cases q1; exact hH q2)
theorem XC.lastHope (h : XC w cm ln n us C) {a : Nat} (ha : a < n) : ∃ r : Int, X3_lastHope w (a + 5) (iI (ln : Nat)) = some (iI r) ∧ -1 ≤ r ∧ r ≤ ln ∧ ∀ N, N ≤ ln → (hope (C a) us cm ln N ↔ (N : Int) ≤ r) := by
  have hln := h.2.2.1
  unfold X3_lastHope
  have := h.lastHopeL ha (ln + 1) 1000 1 (by omega) (by omega) (by
    rw [show ln + 1 - (ln + 1) = 0 by omega]
    refine ⟨by omega, ?_⟩
    show ∀ m, m < 5 → (1 / 2 ^ m % 2 = 1 ↔ decide (m = 0) = true)
    decide) (fun N x y => by omega)
  rw [show ((ln + 1 : Nat) : Int) - 1 = (ln : Nat) by omega] at this
  exact this
/-- whether the first c is sure from unit N on -/
def b5of (a b : Nat) : Int := if a ≤ b then 1 else 0
def goodN (C : Nat → Cd) (us : Nat → Nat) (cm ln n a N : Nat) : Prop := hope (C a) us cm ln N ∧ ∀ b, b < n → b ≠ a → ¬ bt (C a) (C b) us cm ln (b5of a b) N
def FS (G : Nat → Prop) (ln : Nat) (r : Int) : Prop := (r = -1 ∧ ∀ N, N ≤ ln → ¬ G N) ∨ (∃ N : Nat, r = N ∧ N ≤ ln ∧ G N ∧ ∀ M, M < N → ¬ G M)
theorem FS.uniq {G : Nat → Prop} {ln : Nat} {r s : Int} (h1 : FS G ln r) (h2 : FS G ln s) : r = s := by
  rcases h1 with ⟨a1, a2⟩ | ⟨N, a1, a2, a3, a4⟩
  · rcases h2 with ⟨b1, b2⟩ | ⟨M, b1, b2, b3, b4⟩
    · omega
    · exact absurd b3 (a2 M b2)
  · rcases h2 with ⟨b1, b2⟩ | ⟨M, b1, b2, b3, b4⟩
    · exact absurd a3 (b2 N a2)
    · rcases Nat.lt_trichotomy N M with c | c | c
      · exact absurd a3 (b4 N c)
      · omega
      · exact absurd b3 (a4 M c)
theorem XC.fsL (h : XC w cm ln n us C) {a : Nat} (ha : a < n) {r2 : Int} (hr2 : -1 ≤ r2 ∧ r2 ≤ ln) (hH : ∀ N, N ≤ ln → (hope (C a) us cm ln N ↔ (N : Int) ≤ r2)) :
    ∀ d k fuel (b3 : Nat) w1, k + d = n → d < fuel → Fr SO w w1 → b3 ≤ ln + 1 → (∀ N, N ≤ ln → (b3 ≤ N ↔ ∀ b, b < k → b ≠ a → ¬ bt (C a) (C b) us cm ln (b5of a b) N)) → ∃ (r : Int) (w' : Wd), X6_firstSure_L30 fuel X6_firstSure_L102 (iI (a : Nat)) (iI r2) (iI (b3 : Nat)) (iI (k : Nat)) w1 = some (iI r, w') ∧ Fr SO w w' ∧ FS (goodN C us cm ln n a) ln r := by
  obtain ⟨h1, h2, h3, h4, h5, h6, h7, h8, h9⟩ := id h
  intro d
  induction d with
  | zero =>
    intro k fuel b3 w1 hd hf f1 hb hI
    obtain ⟨f', rfl⟩ : ∃ f', fuel = f' + 1 := ⟨fuel - 1, by omega⟩
    obtain rfl : k = n := by omega
    rw [X6_firstSure_L30, f1.1 0 0 7 (by unfold SO; omega), h5, if_pos (yL (by omega) (by omega) (by omega))]
    unfold X6_firstSure_L102
    by_cases q : r2 < b3
    · rw [if_pos (yT q (by omega) (by omega))]
      refine ⟨-1, w1, rfl, f1, Or.inl ⟨rfl, fun N hN g => ?_⟩⟩
      have a1 := (hH N hN).mp g.1
      have a2 := (hI N hN).mpr g.2
      omega
    · rw [if_neg (nT (by omega) (by omega) (by omega))]
      refine ⟨b3, w1, rfl, f1, Or.inr ⟨b3, rfl, by omega, ⟨(hH b3 (by omega)).mpr (by omega), (hI b3 (by omega)).mp (Nat.le_refl _)⟩, fun M hM g => ?_⟩⟩
      have := (hI M (by omega)).mpr g.2
      omega
  | succ d ih =>
    intro k fuel b3 w1 hd hf f1 hb hI
    obtain ⟨f', rfl⟩ : ∃ f', fuel = f' + 1 := ⟨fuel - 1, by omega⟩
    rw [X6_firstSure_L30, f1.1 0 0 7 (by unfold SO; omega), h5, if_neg (nL (by omega) (by omega) (by omega))]
    by_cases q : r2 < b3
    · rw [if_pos (yT q (by omega) (by omega))]
      unfold X6_firstSure_L102
      rw [if_pos (yT q (by omega) (by omega))]
      refine ⟨-1, w1, rfl, f1, Or.inl ⟨rfl, fun N hN g => ?_⟩⟩
      have a1 := (hH N hN).mp g.1
      have a2 := (hI N hN).mpr (fun b hb hne => g.2 b (by omega) hne)
      omega
    · rw [if_neg (nT (by omega) (by omega) (by omega))]
      by_cases q2 : k = a
      · subst q2
        rw [if_pos rfl, bnd_e, iI_add]
        refine ih (k + 1) f' b3 w1 (by omega) (by omega) f1 hb (fun N hN => ?_)
        rw [hI N hN]
        exact ⟨fun t b hb hne => t b (by omega) hne, fun t b hb hne => t b (by omega) hne⟩
      · rw [if_neg (nE (by omega) (by omega) (by omega)), ix_n (by omega) (by decide), ix_n (by omega) (by decide)]
        have hw1 := h.fr (f1.mono (fun _ _ _ q => SO_x q))
        have fin : ∀ (r : Int) (w2 : Wd), Fr SO w1 w2 → -1 ≤ r → r ≤ ln → (∀ N, N ≤ ln → (bt (C a) (C k) us cm ln (b5of a k) N ↔ (N : Int) ≤ r)) → ∃ (r' : Int) (w' : Wd), (bnd (imax (iI (b3 : Nat)) (iI r + iI 1)) fun x_8 => bnd (iI (k : Nat) + iI 1) fun x_9 => X6_firstSure_L30 f' X6_firstSure_L102 (iI (a : Nat)) (iI r2) x_8 x_9 w2) = some (iI r', w') ∧ Fr SO w w' ∧ FS (goodN C us cm ln n a) ln r' := by
          intro r w2 g1 g2 g3 g4
          rw [iI_add, imax_iI (by omega) (by omega), bnd_e, bnd_e, iI_add]
          have := ih (k + 1) f' (max (b3 : Int) (r + 1)).toNat w2 (by omega) (by omega) (f1.tr g1) (by omega) (fun N hN => ?_)
          · rw [show (((max (b3 : Int) (r + 1)).toNat : Nat) : Int) = max (b3 : Int) (r + 1) by omega] at this
            exact this
          · constructor
            · intro t b hb hne
              by_cases z : b = k
              · subst z; intro z2; have := (g4 N hN).mp z2; omega
              · exact (hI N hN).mp (by omega) b (by omega) hne
            · intro t
              have a1 := (hI N hN).mpr (fun b hb hne => t b (by omega) hne)
              have a2 := t k (by omega) q2
              rw [g4 N hN] at a2
              omega
        rw [hw1.2.2.2.2.2.2.1]
        by_cases q3 : a ≤ k
        · obtain ⟨r, w2, k1, k2, k3, k4, k5⟩ := hw1.lastBeaten ha (show k < n by omega) (b4 := iI 0) (b5 := b5of a k) (Or.inl ⟨rfl, by unfold b5of; rw [if_pos q3]⟩)
          rw [if_pos (yL (by omega) (by omega) (by omega)), k1, bI_s]
          exact fin r w2 k2 k3 k4 k5
        · obtain ⟨r, w2, k1, k2, k3, k4, k5⟩ := hw1.lastBeaten ha (show k < n by omega) (b4 := iI 1) (b5 := b5of a k) (Or.inr ⟨rfl, by unfold b5of; rw [if_neg q3]⟩)
          rw [if_neg (nL (by omega) (by omega) (by omega)), k1, bI_s]
          exact fin r w2 k2 k3 k4 k5
theorem XC.firstSure (h : XC w cm ln n us C) {a : Nat} (ha : a < n) : ∃ (r : Int) (w' : Wd), X6_firstSure w (iI (a : Nat)) = some (iI r, w') ∧ Fr SO w w' ∧ FS (goodN C us cm ln n a) ln r := by
  obtain ⟨h1, h2, h3, h4, h5, h6, h7, h8, h9⟩ := id h
  obtain ⟨r, e1, e2, e3, e4⟩ := h.lastHope ha
  unfold X6_firstSure
  rw [ix_n (by omega) (by decide), h7, e1, ob_s]
  by_cases q : r = -1
  · rw [if_pos (yE q)]
    exact ⟨-1, w, rfl, Fr.rf _ w, Or.inl ⟨rfl, fun N hN g => by have := (e4 N hN).mp g.1; omega⟩⟩
  · rw [if_neg (nE q (by omega) (by omega))]
    exact h.fsL ha ⟨e2, e3⟩ e4 n 0 1000 0 w (by omega) (by omega) (Fr.rf _ w) (by omega) (fun N hN => ⟨fun _ b hb => by omega, fun _ => by omega⟩)
end SUREX2

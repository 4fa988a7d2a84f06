/-! sure: the class. -/
def stt (C : Cd) (us : Nat → Nat) (cm N : Nat) : Option Nat := if N ≤ cm ∧ (rn C us N).1 = true then some (rn C us N).2.2.1 else none
theorem stt_down {C : Cd} {us : Nat → Nat} {cm N p' : Nat} (h : stt C us cm (N + 1) = some p') : ∃ p, stt C us cm N = some p ∧ nx C p (us N) = some p' ∧ (rn C us (N + 1)).2.2.2.2.1 = (rn C us N).2.2.2.2.1 + gn C p (us N) ∧ N + 1 ≤ cm := by
  unfold stt at h
  by_cases q : N + 1 ≤ cm ∧ (rn C us (N + 1)).1 = true
  · rw [if_pos q] at h
    have a0 : (rn C us N).1 = true := rnF_alive q.2 (by omega)
    refine ⟨(rn C us N).2.2.1, by unfold stt; rw [if_pos ⟨by omega, a0⟩], ?_⟩
    have e := rn_succ C us N
    have hp' : (rn C us (N + 1)).2.2.1 = p' := by cases h; rfl
    have q2 := q.2
    rw [e] at hp' q2 ⊢
    revert a0 hp' q2
    generalize rn C us N = r
    obtain ⟨a, sd, p, sg, wt, pr⟩ := r
    intro a0 hp' q2
    dsimp only at a0
    subst a0
    have nl := rnS_nx (C := C) (u := us N) (sd := sd) (p := p) (sg := sg) (wt := wt) (pr := pr)
    cases en : nx C p (us N) with
    | none => obtain ⟨e1, -⟩ := nl.1 en; rw [e1] at q2; cases q2
    | some p2 =>
      obtain ⟨e1, e2, e3⟩ := nl.2 p2 en
      exact ⟨by rw [← hp', e2], e3, q.1⟩
  · rw [if_neg q] at h; cases h
theorem stt_lt {C : Cd} (hk : cok C) {us : Nat → Nat} {cm N p : Nat} (hu : ∀ j, j < cm → us j < 8) (h : stt C us cm N = some p) : p < 3 * ms C ∧ N ≤ cm := by
  unfold stt at h
  by_cases q : N ≤ cm ∧ (rn C us N).1 = true
  · rw [if_pos q] at h
    cases h
    exact ⟨rnF_pl hk (us := us) (f := 0) N (fun j hj => by rw [Nat.zero_add]; exact hu j (by omega)), q.1⟩
  · rw [if_neg q] at h; cases h
def bt (C1 C2 : Cd) (us : Nat → Nat) (cm ln : Nat) (b5 : Int) (N : Nat) : Prop := ∃ p1 p2 z, stt C1 us cm N = some p1 ∧ stt C2 us cm N = some p2 ∧ ld C1 C2 (ln - N) p1 p2 = some z ∧ b5 ≤ ((rn C2 us N).2.2.2.2.1 : Int) - ((rn C1 us N).2.2.2.2.1 : Int) + z
theorem bt_down {C1 C2 : Cd} {us : Nat → Nat} {cm ln : Nat} {b5 : Int} (hu : ∀ j, j < cm → us j < 8) {N : Nat} (hN : N + 1 ≤ ln) (h : bt C1 C2 us cm ln b5 (N + 1)) : bt C1 C2 us cm ln b5 N := by
  obtain ⟨p1, p2, z, h1, h2, h3, h4⟩ := h
  obtain ⟨q1, a1, a2, a3, a4⟩ := stt_down h1
  obtain ⟨q2, b1, b2, b3, b4⟩ := stt_down h2
  have hc : cnd C1 C2 (ld C1 C2 (ln - (N + 1))) q1 q2 (us N) = some (z + (gn C2 q2 (us N) : Nat) - (gn C1 q1 (us N) : Nat)) := by
    unfold cnd; rw [a2, b2]; dsimp only; rw [h3]
  obtain ⟨y, e1, e2⟩ := ldU_ge hc 8 (hu N (by omega))
  refine ⟨q1, q2, y, a1, b1, ?_, by rw [a3, b3] at h4; omega⟩
  rw [show ln - N = ln - (N + 1) + 1 by omega]
  exact e1
theorem bt_downs {C1 C2 : Cd} {us : Nat → Nat} {cm ln : Nat} {b5 : Int} (hu : ∀ j, j < cm → us j < 8) {M : Nat} (hM : M ≤ ln) (h : bt C1 C2 us cm ln b5 M) : ∀ d N, N + d = M → bt C1 C2 us cm ln b5 N := by
  intro d
  induction d with
  | zero => intro N e; have : N = M := by omega
            rw [this]; exact h
  | succ d ih => intro N e; exact bt_down hu (by omega) (ih (N + 1) (by omega))
def hpU (C : Cd) (H : Nat → Bool) (m : Nat) : Nat → Bool
  | 0 => false
  | u + 1 => hpU C H m u || (match trc C m u with
    | none => false
    | some q => H q.1)
/-- a text can end whole, k units on from mode m -/
def hp (C : Cd) : Nat → Nat → Bool
  | 0, m => decide (m = 0)
  | k + 1, m => hpU C (hp C k) m 8
theorem hpU_ge {C : Cd} {H : Nat → Bool} {m u : Nat} {q : Nat × Nat} (h : trc C m u = some q) (hH : H q.1 = true) : ∀ n, u < n → hpU C H m n = true := by
  intro n
  induction n with
  | zero => intro q; omega
  | succ n ih =>
    intro hn
    unfold hpU
    by_cases e : u = n
    · subst e; rw [h]; dsimp only; rw [hH]; simp
    · rw [ih (by omega)]; rfl
def hope (C : Cd) (us : Nat → Nat) (cm ln N : Nat) : Prop := ∃ p, stt C us cm N = some p ∧ hp C (ln - N) (p / 3) = true
theorem nx_trc {C : Cd} (hk : cok C) {p u p' : Nat} (hu : u < 8) (h : nx C p u = some p') : ∃ s, trc C (p / 3) u = some (p' / 3, s) := by
  unfold nx at h
  cases e : trc C (p / 3) u with
  | none => rw [e] at h; cases h
  | some q =>
    obtain ⟨m', s⟩ := q
    obtain ⟨-, -, q2⟩ := trc_ok hk hu e
    rw [e] at h
    dsimp only at h
    by_cases hs : s = 0
    · rw [if_pos hs] at h; cases h; exact ⟨s, by congr 2; omega⟩
    · rw [if_neg hs] at h; cases h; exact ⟨s, by congr 2; omega⟩
theorem hope_down {C : Cd} (hk : cok C) {us : Nat → Nat} {cm ln : Nat} (hu : ∀ j, j < cm → us j < 8) {N : Nat} (hN : N + 1 ≤ ln) (h : hope C us cm ln (N + 1)) : hope C us cm ln N := by
  obtain ⟨p, h1, h2⟩ := h
  obtain ⟨q, a1, a2, a3, a4⟩ := stt_down h1
  refine ⟨q, a1, ?_⟩
  obtain ⟨s, e⟩ := nx_trc hk (hu N (by omega)) a2
  rw [show ln - N = ln - (N + 1) + 1 by omega]
  exact hpU_ge e h2 8 (hu N (by omega))
theorem hope_downs {C : Cd} (hk : cok C) {us : Nat → Nat} {cm ln : Nat} (hu : ∀ j, j < cm → us j < 8) {M : Nat} (hM : M ≤ ln) (h : hope C us cm ln M) : ∀ d N, N + d = M → hope C us cm ln N := by
  intro d
  induction d with
  | zero => intro N e; have : N = M := by omega
            rw [this]; exact h
  | succ d ih => intro N e; exact hope_down hk hu (by omega) (ih (N + 1) (by omega))
theorem bit_get : ∀ x, x < 32 → ∀ m, m < 5 → ((((iI (x : Nat)) >>> ((iI (m : Nat)) &&& 31)) &&& iI 1) = iI 1 ↔ x / 2 ^ m % 2 = 1) := by decide
theorem bit_or : ∀ x, x < 32 → ∀ m, m < 5 → (iI (x : Nat)) ||| ((iI 1) <<< ((iI (m : Nat)) &&& 31)) = iI ((x ||| 2 ^ m : Nat) : Int) := by decide
theorem bit_or2 : ∀ x, x < 32 → ∀ m, m < 5 → (x ||| 2 ^ m) < 32 ∧ ∀ m', m' < 5 → ((x ||| 2 ^ m) / 2 ^ m' % 2 = 1 ↔ m' = m ∨ x / 2 ^ m' % 2 = 1) := by decide
theorem x_begE1 (p : Nat) (hp : p < 3) (K : Int32 → Wd → Option Wd) : ∀ d j fuel w w1, j + d = 3 → d < fuel → Fr SO w w1 → (∀ a b, a < 15 → b < 15 → rd w1 9 1 (a * 15 + b) = eX (if b < 3 ∧ (a < p ∨ (a = p ∧ b < j)) then some 0 else none)) → ∃ w', X3_beginAtEnd_L18 fuel K (iI (p : Nat)) (iI (j : Nat)) w1 = K (iI (p : Nat)) w' ∧ Fr SO w w' ∧ (∀ a b, a < 15 → b < 15 → rd w' 9 1 (a * 15 + b) = eX (if b < 3 ∧ a < p + 1 then some 0 else none)) := by
  intro d
  induction d with
  | zero =>
    intro j fuel w w1 hd hf f1 h
    obtain ⟨f', rfl⟩ : ∃ f', fuel = f' + 1 := ⟨fuel - 1, by omega⟩
    rw [X3_beginAtEnd_L18, if_pos (yL (by omega) (by omega) (by omega))]
    refine ⟨w1, rfl, f1, fun a b ha hb => ?_⟩
    rw [h a b ha hb]
    by_cases q : b < 3 ∧ a < p + 1
    · rw [if_pos q, if_pos (by omega)]
    · rw [if_neg q, if_neg (by omega)]
  | succ d ih =>
    intro j fuel w w1 hd hf f1 h
    obtain ⟨f', rfl⟩ : ∃ f', fuel = f' + 1 := ⟨fuel - 1, by omega⟩
    rw [X3_beginAtEnd_L18, if_neg (nL (by omega) (by omega) (by omega)), iI_mul, iI_add, pa_e (k := p * 15 + j) (by omega) (by omega) (by decide), bnd_e, iI_add]
    refine ih (j + 1) f' w _ (by omega) (by omega) (f1.wr _ rfl) (fun a b ha hb => ?_)
    by_cases q : a = p ∧ b = j
    · obtain ⟨rfl, rfl⟩ := q
      rw [rd_eq, if_pos (by omega)]; rfl
    · rw [rd_j (by omega), h a b ha hb]
      by_cases q2 : b < 3 ∧ (a < p ∨ (a = p ∧ b < j))
      · rw [if_pos q2, if_pos (by omega)]
      · rw [if_neg q2, if_neg (by omega)]
theorem x_begE2 : ∀ d p fuel w w1, p + d = 3 → d < fuel → Fr SO w w1 → (∀ a b, a < 15 → b < 15 → rd w1 9 1 (a * 15 + b) = eX (if b < 3 ∧ a < p then some 0 else none)) → ∃ w', X3_beginAtEnd_L11 fuel (iI (p : Nat)) w1 = some w' ∧ Fr SO w w' ∧ (∀ a b, a < 15 → b < 15 → rd w' 9 1 (a * 15 + b) = eX (if b < 3 ∧ a < 3 then some 0 else none)) := by
  intro d
  induction d with
  | zero =>
    intro p fuel w w1 hd hf f1 h
    obtain ⟨f', rfl⟩ : ∃ f', fuel = f' + 1 := ⟨fuel - 1, by omega⟩
    obtain rfl : p = 3 := by omega
    rw [X3_beginAtEnd_L11, if_pos (yL (by omega) (by omega) (by omega))]
    exact ⟨w1, rfl, f1, h⟩
  | succ d ih =>
    intro p fuel w w1 hd hf f1 h
    obtain ⟨f', rfl⟩ : ∃ f', fuel = f' + 1 := ⟨fuel - 1, by omega⟩
    obtain ⟨w2, e1, e2, e3⟩ := x_begE1 p (by omega) (X3_beginAtEnd_L41 (X3_beginAtEnd_L11 f')) 3 0 1000 w w1 (by omega) (by omega) f1 (fun a b ha hb => by
      rw [h a b ha hb]
      by_cases q2 : b < 3 ∧ a < p
      · rw [if_pos q2, if_pos (by omega)]
      · rw [if_neg q2, if_neg (by omega)])
    rw [X3_beginAtEnd_L11, if_neg (nL (by omega) (by omega) (by omega)), show (iI 0 : Int32) = iI ((0 : Nat) : Int) from rfl, e1]
    unfold X3_beginAtEnd_L41
    rw [bnd_e, iI_add]
    exact ih (p + 1) f' w w2 (by omega) (by omega) e2 e3
theorem x_begE (w : Wd) (C1 C2 : Cd) : ∃ w', X3_beginAtEnd w = some w' ∧ Fr SO w w' ∧ LdX w' (ld C1 C2 0) := by
  unfold X3_beginAtEnd
  rw [bnd_e]
  have f1 : Fr SO w (wfill w 9 1 225 (iI (-1000000))) := ⟨fun g o j q => by rw [rd_fill]; exact if_neg (fun z => q z.1), rfl⟩
  obtain ⟨w2, e1, e2, e3⟩ := x_begE2 3 0 1000 w _ (by omega) (by omega) f1 (fun a b ha hb => by rw [rd_fill, if_pos (by omega), if_neg (by omega)]; rfl)
  refine ⟨w2, e1, e2, fun a b ha hb => ?_⟩
  rw [e3 a b ha hb]
  unfold ld
  by_cases q : a < 3 ∧ b < 3
  · rw [if_pos q, if_pos (by omega)]
  · rw [if_neg q, if_neg (by omega)]
section SUREX
variable {w : Wd} {cm ln n : Nat} {us : Nat → Nat} {C : Nat → Cd}
theorem SO_x {g o j : Nat} (h : SO g o j) : ScX g o j := by unfold SO at h; unfold ScX; omega
theorem XC.stood (h : XC w cm ln n us C) {c N : Nat} (hc : c < n) : N ≤ (rn (C c) us cm).2.1 ↔ (N ≤ cm ∧ (rn (C c) us N).1 = true) := by
  have bd := h.bd hc
  obtain ⟨h1, h2, h3, h4, h5, h6, h7, h8, h9⟩ := h
  constructor
  · intro q
    exact ⟨by omega, (rnF_stood (h9 c hc).1 (us := us) (f := 0) (k := cm) (fun j hj => by rw [Nat.zero_add]; exact (h8 j hj).1) N (by omega)).mpr q⟩
  · intro q
    exact (rnF_stood (h9 c hc).1 (us := us) (f := 0) (k := cm) (fun j hj => by rw [Nat.zero_add]; exact (h8 j hj).1) N q.1).mp q.2
theorem XC.stateAt (h : XC w cm ln n us C) {c N : Nat} (hc : c < n) (hN : N ≤ 40) : X5_stateAt w (c + 5) (iI (N : Nat)) = some (oE (stt (C c) us cm N)) := by
  have st := h.stood (N := N) hc
  have bd := h.bd hc
  obtain ⟨h1, h2, h3, h4, h5, h6, h7, h8, h9⟩ := h
  obtain ⟨r1, r2, r3, r4, r5⟩ := (h9 c hc).2.2
  unfold X5_stateAt stt
  rw [if_neg (nT0 (by omega) (by omega)), r4]
  by_cases q : N ≤ (rn (C c) us cm).2.1
  · rw [if_neg (nT (by omega) (by omega) (by omega)), ga_n (by omega) (by decide), (r1 N (st.mp q).1 (st.mp q).2).1, if_pos (st.mp q)]; rfl
  · rw [if_pos (yT (by omega) (by omega) (by omega)), if_neg (fun z => q (st.mpr z))]; rfl
theorem XC.weightAt (h : XC w cm ln n us C) {c N p : Nat} (hc : c < n) (hN : N ≤ 40) (hs : stt (C c) us cm N = some p) : X5_weightAt w (c + 5) (iI (N : Nat)) = some (iI ((rn (C c) us N).2.2.2.2.1 : Nat)) := by
  have st := h.stood (N := N) hc
  have bd := h.bd hc
  obtain ⟨h1, h2, h3, h4, h5, h6, h7, h8, h9⟩ := h
  obtain ⟨r1, r2, r3, r4, r5⟩ := (h9 c hc).2.2
  have hq : N ≤ cm ∧ (rn (C c) us N).1 = true := by
    unfold stt at hs
    by_cases q : N ≤ cm ∧ (rn (C c) us N).1 = true
    · exact q
    · rw [if_neg q] at hs; cases hs
  have q := st.mpr hq
  unfold X5_weightAt
  rw [if_neg (nT0 (by omega) (by omega)), r4, if_neg (nT (by omega) (by omega) (by omega)), ga_n (by omega) (by decide), (r1 N hq.1 hq.2).2]
theorem x_lastB (h : XC w cm ln n us C) {a b : Nat} (ha : a < n) (hb : b < n) {b5 : Int} (hb5 : b5 = 0 ∨ b5 = 1) :
    ∀ e fuel w1, e ≤ ln + 1 → e < fuel → Fr SO w w1 → LdX w1 (ld (C a) (C b) (ln + 1 - e)) → (∀ N, e ≤ N → N ≤ ln → ¬ bt (C a) (C b) us cm ln b5 N) → ∃ (r : Int) (w' : Wd), X3_lastBeaten_L19 fuel (a + 5) (b + 5) (iI b5) (iI ((e : Int) - 1)) w1 = some (iI r, w') ∧ Fr SO w w' ∧ -1 ≤ r ∧ r ≤ ln ∧ ∀ N, N ≤ ln → (bt (C a) (C b) us cm ln b5 N ↔ (N : Int) ≤ r) := by
  obtain ⟨h1, h2, h3, h4, h5, h6, h7, h8, h9⟩ := id h
  have hu : ∀ j, j < cm → us j < 8 := fun j hj => (h8 j hj).1
  obtain ⟨ka, xa, -⟩ := h9 a ha
  obtain ⟨kb, xb, -⟩ := h9 b hb
  have hma := ms_le (C a)
  have hmb := ms_le (C b)
  intro e
  induction e with
  | zero =>
    intro fuel w1 he hf f1 hL hn
    obtain ⟨f', rfl⟩ : ∃ f', fuel = f' + 1 := ⟨fuel - 1, by omega⟩
    rw [X3_lastBeaten_L19, if_pos (yT0 (by omega) (by omega))]
    exact ⟨-1, w1, rfl, f1, by omega, by omega, fun N hN => ⟨fun q => absurd q (hn N (by omega) hN), fun q => by omega⟩⟩
  | succ e ih =>
    intro fuel w1 he hf f1 hL hn
    obtain ⟨f', rfl⟩ : ∃ f', fuel = f' + 1 := ⟨fuel - 1, by omega⟩
    have hw1 := h.fr (f1.mono (fun _ _ _ q => SO_x q))
    have xa1 : CodeX w1 (a + 1) (C a) := (hw1.2.2.2.2.2.2.2.2 a ha).2.1
    have xb1 : CodeX w1 (b + 1) (C b) := (hw1.2.2.2.2.2.2.2.2 b hb).2.1
    obtain ⟨w2, l1, l2, l3⟩ := x_lengthen (L := ld (C a) (C b) (ln + 1 - (e + 1))) xa1 xb1 ka kb (by omega) (by omega) (fun p q z hz => by have := ld_bd ka kb _ p q z hz; omega) hL
    have l3' : LdX w2 (ld (C a) (C b) (ln + 1 - e)) := by
      rw [show ln + 1 - e = ln + 1 - (e + 1) + 1 by omega]; exact l3
    have hidx : ((e + 1 : Nat) : Int) - 1 = (e : Nat) := by omega
    have next : ¬ bt (C a) (C b) us cm ln b5 e → ∃ (r : Int) (w' : Wd), (ob (X3_lengthen w1 (a + 5 - 4) (b + 5 - 4)) fun w_6 => bnd (iI (e : Nat) + iI (-1)) fun x_7 => X3_lastBeaten_L19 f' (a + 5) (b + 5) (iI b5) x_7 w_6) = some (iI r, w') ∧ Fr SO w w' ∧ -1 ≤ r ∧ r ≤ ln ∧ ∀ N, N ≤ ln → (bt (C a) (C b) us cm ln b5 N ↔ (N : Int) ≤ r) := by
      intro hnb
      rw [show a + 5 - 4 = a + 1 by omega, show b + 5 - 4 = b + 1 by omega, l1, ob_s, bnd_e, iI_add, show (e : Int) + -1 = (e : Int) - 1 by omega]
      exact ih f' w2 (by omega) (by omega) (f1.tr l2) l3' (fun N x y => by
        by_cases q : N = e
        · rw [q]; exact hnb
        · exact hn N (by omega) y)
    rw [X3_lastBeaten_L19, hidx, if_neg (nT0 (by omega) (by omega)), hw1.stateAt ha (by omega), ob_s, hw1.stateAt hb (by omega), ob_s]
    cases ea : stt (C a) us cm e with
    | none =>
      rw [show oE none = iI (-1) from rfl, x_leadAtN, ob_s, if_pos (show eX none = iI (-1000000) from rfl)]
      exact next (fun q => by obtain ⟨p1, p2, z, q1, -⟩ := q; rw [ea] at q1; cases q1)
    | some p1 =>
      have hp1 := (stt_lt ka hu ea).1
      rw [show oE (some p1) = iI (p1 : Nat) from rfl, x_leadAt hL (by omega) (fun q hq => by have := (stt_lt kb hu hq).1; omega), ob_s]
      cases eb : stt (C b) us cm e with
      | none =>
        rw [if_pos (show eX (oL (ld (C a) (C b) (ln + 1 - (e + 1))) p1 none) = iI (-1000000) from rfl)]
        exact next (fun q => by obtain ⟨p1, p2, z, -, q1, -⟩ := q; rw [eb] at q1; cases q1)
      | some p2 =>
        rw [show oL (ld (C a) (C b) (ln + 1 - (e + 1))) p1 (some p2) = ld (C a) (C b) (ln - e) p1 p2 by show ld _ _ _ _ _ = _; rw [show ln + 1 - (e + 1) = ln - e by omega]]
        cases el : ld (C a) (C b) (ln - e) p1 p2 with
        | none =>
          rw [if_pos (show eX none = iI (-1000000) from rfl)]
          exact next (fun q => by
            obtain ⟨p1', p2', z, q1, q2, q3, -⟩ := q
            rw [ea] at q1; rw [eb] at q2; cases q1; cases q2; rw [el] at q3; cases q3)
        | some z =>
          have hz := ld_bd ka kb _ _ _ z el
          have wa : (rn (C a) us e).2.2.2.2.1 ≤ 9 * e := (rnF_bd ka (us := us) (f := 0) e (fun j hj => by rw [Nat.zero_add]; exact hu j (by have := (stt_lt ka hu ea).2; omega))).2.2.1
          have wb : (rn (C b) us e).2.2.2.2.1 ≤ 9 * e := (rnF_bd kb (us := us) (f := 0) e (fun j hj => by rw [Nat.zero_add]; exact hu j (by have := (stt_lt ka hu ea).2; omega))).2.2.1
          rw [show eX (some z) = iI z from rfl, if_neg (nE (by omega) (by omega) (by omega)), hw1.weightAt hb (by omega) eb, ob_s, hw1.weightAt ha (by omega) ea, ob_s, iI_sub, iI_add]
          by_cases q : ((rn (C b) us e).2.2.2.2.1 : Int) - ((rn (C a) us e).2.2.2.2.1 : Int) + z < b5
          · rw [if_pos (yT q (by omega) (by omega))]
            exact next (fun t => by
              obtain ⟨p1', p2', z', q1, q2, q3, q4⟩ := t
              rw [ea] at q1; rw [eb] at q2; cases q1; cases q2; rw [el] at q3; cases q3; omega)
          · rw [if_neg (nT (by omega) (by omega) (by omega))]
            have hbt : bt (C a) (C b) us cm ln b5 e := ⟨p1, p2, z, ea, eb, el, by omega⟩
            exact ⟨e, w1, rfl, f1, by omega, by omega, fun N hN => ⟨fun t => by
              rcases Nat.lt_or_ge e N with c | c
              · exact absurd t (hn N (by omega) hN)
              · omega, fun t => bt_downs hu (show e ≤ ln by omega) hbt (e - N) N (by omega)⟩⟩
theorem XC.lastBeaten (h : XC w cm ln n us C) {a b : Nat} (ha : a < n) (hb : b < n) {b4 : Int32} {b5 : Int} (hb5 : (b4 = iI 0 ∧ b5 = 1) ∨ (b4 = iI 1 ∧ b5 = 0)) : ∃ (r : Int) (w' : Wd), X3_lastBeaten w (a + 5) (b + 5) (iI (ln : Nat)) b4 = some (iI r, w') ∧ Fr SO w w' ∧ -1 ≤ r ∧ r ≤ ln ∧ ∀ N, N ≤ ln → (bt (C a) (C b) us cm ln b5 N ↔ (N : Int) ≤ r) := by
  obtain ⟨w1, e1, e2, e3⟩ := x_begE w (C a) (C b)
  have hln := h.2.2.1
  unfold X3_lastBeaten
  obtain ⟨r, w2, k1, k2, k3, k4, k5⟩ := x_lastB h ha hb (b5 := b5) (by omega) (ln + 1) 1000 w1 (by omega) (by omega) e2 (by rw [show ln + 1 - (ln + 1) = 0 by omega]; exact e3) (fun N x y => by omega)
  rw [show ((ln + 1 : Nat) : Int) - 1 = (ln : Nat) by omega] at k1
  refine ⟨r, w2, ?_, k2, k3, k4, k5⟩
  rcases hb5 with ⟨q1, q2⟩ | ⟨q1, q2⟩
  · subst q1; subst q2; rw [if_pos (show iI 0 = 0 from rfl), e1, ob_s]; exact k1
  · subst q1; subst q2; rw [if_neg (by decide), e1, ob_s]; exact k1
end SUREX

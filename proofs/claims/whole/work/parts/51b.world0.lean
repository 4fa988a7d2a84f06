/-! The start: the numbers of a new class and a new reference, and their cells as one list. -/
def w0 : Wd := (fun g o j => if g = 0 ∧ o = 0 ∧ j = 4 then 40 else if g = 12 ∧ o = 0 ∧ j = 7 then 40 else 0, 0)
theorem w0_arr {g o j : Nat} (h : o ≠ 0) : rd w0 g o j = 0 := by
  show (if g = 0 ∧ o = 0 ∧ j = 4 then (40 : Int32) else if g = 12 ∧ o = 0 ∧ j = 7 then 40 else 0) = 0
  rw [if_neg (fun q => h q.2.1), if_neg (fun q => h q.2.1)]
theorem w0_rel : Rel w0 :=
  ⟨0, 0, 40, 0, fun _ => 0, fun _ => 0, fun _ => (0, 0, fun _ => 0, fun _ => 0),
    ⟨by decide, by decide, by decide, fun j h => absurd h (Nat.not_lt_zero j)⟩,
    ⟨by decide, by decide, by decide, by decide, by decide, by decide, by decide, fun j h => absurd h (Nat.not_lt_zero j)⟩,
    ⟨by decide, by decide⟩,
    ⟨by decide, by decide, by decide, fun c h => absurd h (Nat.not_lt_zero c)⟩,
    fun c h => absurd h (Nat.not_lt_zero c)⟩
/-- the places in the order of the worlds' list -/
def pts : List (Nat × Nat) := [(0, 0), (0, 1), (0, 2), (0, 3), (0, 4), (1, 0), (1, 1), (1, 2), (1, 3), (1, 4), (1, 5), (1, 6), (5, 0), (5, 1), (5, 2), (5, 3), (2, 0), (2, 1), (2, 2), (2, 3), (2, 4), (2, 5), (2, 6), (6, 0), (6, 1), (6, 2), (6, 3), (3, 0), (3, 1), (3, 2), (3, 3), (3, 4), (3, 5), (3, 6), (7, 0), (7, 1), (7, 2), (7, 3), (4, 0), (4, 1), (4, 2), (4, 3), (4, 4), (4, 5), (4, 6), (8, 0), (8, 1), (8, 2), (8, 3), (9, 0), (9, 1), (9, 2), (10, 0), (10, 1), (10, 2), (10, 3), (10, 4), (11, 0), (11, 1), (11, 2), (11, 3), (11, 4), (11, 5), (12, 0), (12, 1), (12, 2), (12, 3), (12, 4), (12, 5), (12, 6), (12, 7), (12, 8), (12, 9), (12, 10), (12, 11), (12, 12), (12, 13), (12, 14), (12, 15), (12, 16), (12, 17), (12, 18), (12, 19), (12, 20)]
theorem kl_b {g : Nat} (h : kl g < 7) : g < 13 := by
  unfold kl at h
  (repeat' split at h) <;> omega
theorem il_b {c o : Nat} (h : 0 < il c o) : c < 7 ∧ o < 21 := by
  unfold il at h
  split at h <;> first | exact ⟨by decide, by decide⟩ | exact absurd h (by decide)
theorem zl_b {c o : Nat} (h : 0 < zl c o) : c < 7 ∧ o < 21 := by
  unfold zl at h
  split at h <;> first | exact ⟨by decide, by decide⟩ | exact absurd h (by decide)
theorem pts_in : ∀ g, g < 13 → ∀ o, o < 21 → ((o = 0 ∧ kl g < 7) ∨ 0 < il (kl g) o ∨ 0 < zl (kl g) o ∨ (g = 0 ∧ (o = 3 ∨ o = 4))) → (pts.any (fun p => p.1 == g && p.2 == o)) = true := by decide +kernel
theorem xA_pts {g o : Nat} (h : xA g o) : (g, o) ∈ pts := by
  have hb : g < 13 ∧ o < 21 := by
    rcases h with h | h | h | h
    · exact ⟨kl_b h.2, by have := h.1; omega⟩
    · exact ⟨kl_b (il_b h).1, (il_b h).2⟩
    · exact ⟨kl_b (zl_b h).1, (zl_b h).2⟩
    · omega
  obtain ⟨p, hp, he⟩ := List.any_eq_true.mp (pts_in g hb.1 o hb.2 h)
  rw [Bool.and_eq_true, beq_iff_eq, beq_iff_eq] at he
  rw [← he.1, ← he.2]
  exact hp
def nf (c : Nat) : Nat := ((vwCl[c]?).map (fun r => r.2.2)).getD 0
/-- what lies at a place -/
def ent (cs : vCs) (ad : Nat → Nat → Nat) (fC fR : Nat → Option Nat) (g o : Nat) : va_E :=
  if o = 0 then .inr (kl g, (List.range (nf (kl g))).map (fv ad w0 g)) else if 0 < il (kl g) o then .inl (cs.1, il (kl g) o, .inl (fun _ => 0)) else if 0 < zl (kl g) o then .inl (cs.2.1, zl (kl g) o, .inl (fun _ => 0)) else if o = 3 then .inl (cs.2.2.1, 4, .inr (.inr (.inr (.inr fC)))) else .inl (cs.2.2.2, 4, .inr (.inr (.inr (.inr fR))))
def wsl (cs : vCs) (ad : Nat → Nat → Nat) (fC fR : Nat → Option Nat) : va_W := pts.map (fun p => (ad p.1 p.2, ent cs ad fC fR p.1 p.2))
section WSL
variable {D : va_G} {A : Nat → Prop} {cs : vCs} {ad : Nat → Nat → Nat} {fC fR : Nat → Option Nat} {H : Heap}
theorem wsl_at {g o : Nat} (h : xA g o) : ∃ k : Nat, pts[k]? = some (g, o) ∧ (wsl cs ad fC fR)[k]? = some (ad g o, ent cs ad fC fR g o) := by
  obtain ⟨k, hk⟩ := List.getElem?_of_mem (xA_pts h)
  exact ⟨k, hk, by unfold wsl; rw [List.getElem?_map, hk]; rfl⟩
theorem arrV_same {cA : ClassId} {n : Nat} {f g : Nat → Value} (h : ∀ j, j < n → f j = g j) : arrV cA n f = arrV cA n g := by
  have e : (fun j : Fin n => f j.val) = (fun j : Fin n => g j.val) := funext fun j => h j.val j.isLt
  unfold arrV
  rw [e]
theorem wsl_WH (hP : va_P D vwCl (wsl cs ad fC fR) H) (hC : ∀ j, j < 4 → fC j = some (ad (j + 1) 0)) (hR : ∀ j, j < 4 → fR j = some (ad (j + 5) 0)) : WH D cs ad w0 H := by
  have get : ∀ g o, xA g o → va_at D vwCl (ad g o, ent cs ad fC fR g o) H := fun g o h => by
    obtain ⟨k, -, hk⟩ := wsl_at (cs := cs) (ad := ad) (fC := fC) (fR := fR) h
    exact hP k _ hk
  refine ⟨fun g hg => ?_, fun g o hg => ?_, fun g o hg => ?_, ?_, ?_⟩
  · have h := get g 0 (Or.inl ⟨rfl, hg⟩)
    rw [show ent cs ad fC fR g 0 = .inr (kl g, (List.range (nf (kl g))).map (fv ad w0 g)) from by unfold ent; rw [if_pos rfl]] at h
    obtain ⟨r, h1, h2⟩ := h
    refine ⟨r, h1, h2.to (fun k hk => ?_)⟩
    have h1 : vwCl[kl g]? = some r := h1
    have hn : nf (kl g) = r.2.2 := by unfold nf; rw [h1]; rfl
    show ((List.range (nf (kl g))).map (fv ad w0 g)).getD k .null = fv ad w0 g k
    rw [List.getD_eq_getElem?_getD, List.getElem?_map, List.getElem?_range (by rw [hn]; exact hk)]
    rfl
  · have o0 : o ≠ 0 := fun e => by rw [e, il0] at hg; exact absurd hg (by decide)
    have h := get g o (Or.inr (Or.inl hg))
    rw [show ent cs ad fC fR g o = .inl (cs.1, il (kl g) o, .inl (fun _ => 0)) from by unfold ent; rw [if_neg o0, if_pos hg]] at h
    have h : H[ad g o]? = some (vp_cell cs.1 (il (kl g) o, .inl (fun _ => 0))) := h
    rw [h, vp_cell_i]
    congr 1
    exact arrV_same (fun j _ => by rw [w0_arr o0])
  · have o0 : o ≠ 0 := fun e => by rw [e, zl0] at hg; exact absurd hg (by decide)
    have hi : ¬ 0 < il (kl g) o := fun q => by rw [il_zl q] at hg; exact absurd hg (by decide)
    have h := get g o (Or.inr (Or.inr (Or.inl hg)))
    rw [show ent cs ad fC fR g o = .inl (cs.2.1, zl (kl g) o, .inl (fun _ => 0)) from by unfold ent; rw [if_neg o0, if_neg hi, if_pos hg]] at h
    have h : H[ad g o]? = some (vp_cell cs.2.1 (zl (kl g) o, .inl (fun _ => 0))) := h
    rw [h, vp_cell_i]
    congr 1
    exact arrV_same (fun j _ => by rw [w0_arr o0])
  · have h := get 0 3 (Or.inr (Or.inr (Or.inr ⟨rfl, Or.inl rfl⟩)))
    have h : H[ad 0 3]? = some (vp_cell cs.2.2.1 (4, .inr (.inr (.inr (.inr fC))))) := h
    rw [h, vp_cell_q]
    congr 1
    exact arrV_same (fun j hj => by rw [hC j hj]; rfl)
  · have h := get 0 4 (Or.inr (Or.inr (Or.inr ⟨rfl, Or.inr rfl⟩)))
    have h : H[ad 0 4]? = some (vp_cell cs.2.2.2 (4, .inr (.inr (.inr (.inr fR))))) := h
    rw [h, vp_cell_q]
    congr 1
    exact arrV_same (fun j hj => by rw [hR j hj]; rfl)
theorem wsl_apart (hD : va_D A (wsl cs ad fC fR)) : ∀ g o g' o', xA g o → xA g' o' → ad g o = ad g' o' → g = g' ∧ o = o' := by
  intro g o g' o' h h' e
  obtain ⟨k, a1, a2⟩ := wsl_at (cs := cs) (ad := ad) (fC := fC) (fR := fR) h
  obtain ⟨k', b1, b2⟩ := wsl_at (cs := cs) (ad := ad) (fC := fC) (fR := fR) h'
  have hk := hD.1 k k' _ _ a2 b2 e
  subst hk
  have q := Option.some.inj (a1.symm.trans b1)
  exact ⟨congrArg Prod.fst q, congrArg Prod.snd q⟩
theorem wsl_free (hD : va_D A (wsl cs ad fC fR)) : ∀ q, xF ad q → A q := by
  rintro q ⟨g, o, h, rfl⟩
  obtain ⟨k, -, hk⟩ := wsl_at (cs := cs) (ad := ad) (fC := fC) (fR := fR) h
  exact hD.2 k _ hk
end WSL
/-- the place's address out of the list of all addresses -/
def adF (l : List Nat) (g o : Nat) : Nat := l.getD (([0, 5, 16, 27, 38, 12, 23, 34, 45, 49, 52, 57, 63] : List Nat).getD g 0 + o) 0

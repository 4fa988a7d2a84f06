/-! How a store changes what the heap holds. -/
theorem vwCl_lt {c : Nat} {q : vw_C} (h : vwCl[c]? = some q) : c < 7 := (List.getElem?_eq_some_iff.mp h).1
theorem il0 (c : Nat) : il c 0 = 0 := by unfold il; split <;> simp_all
theorem zl0 (c : Nat) : zl c 0 = 0 := by unfold zl; split <;> simp_all
theorem il_zl {c o : Nat} (h : 0 < il c o) : zl c o = 0 := by
  unfold zl; split
  · exact absurd h (by decide)
  · exact absurd h (by decide)
  · exact absurd h (by decide)
  · rfl
theorem il_50 {o : Nat} (h : 0 < il 5 o) : o ≠ 3 ∧ o ≠ 4 := ⟨fun e => by subst e; exact absurd h (by decide), fun e => by subst e; exact absurd h (by decide)⟩
theorem rd_ne {w : Wd} {g o j g' o' j' : Nat} {v : Int32} (h : ¬ (g' = g ∧ o' = o ∧ j' = j)) : rd (wr w g o j v) g' o' j' = rd w g' o' j' := by
  show (if g' = g ∧ o' = o ∧ j' = j then v else w.1 g' o' j') = w.1 g' o' j'
  rw [if_neg h]
theorem rd_eq {w : Wd} {g o j : Nat} {v : Int32} : rd (wr w g o j v) g o j = v := by
  show (if g = g ∧ o = o ∧ j = j then v else w.1 g o j) = v
  rw [if_pos ⟨rfl, rfl, rfl⟩]
theorem fv_same {ad : Nat → Nat → Nat} {w w' : Wd} {g k : Nat} (h : rd w' g 0 k = rd w g 0 k) (h2 : w'.2 = w.2) : fv ad w' g k = fv ad w g k := by
  unfold fv fval; rw [h, h2]
section CELLS
variable {D : va_G} {cs : vCs} {ad : Nat → Nat → Nat} {w w' : Wd} {H H1 : Heap} {s : State}
theorem WH.arr (hK : WK D cs ad s) (h : WH D cs ad w H) {g o : Nat} (hn : 0 < il (kl g) o) (oq : ∀ q : Nat, q ≠ ad g o → H1[q]? = H[q]?) (he : H1[ad g o]? = some (arrV cs.1 (il (kl g) o) (fun j => .int (rd w' g o j))))
    (hw : ∀ g' o' j, ¬ (g' = g ∧ o' = o) → rd w' g' o' j = rd w g' o' j) (h2 : w'.2 = w.2) : WH D cs ad w' H1 := by
  have hx : xA g o := Or.inr (Or.inl hn)
  have ne : ∀ g' o', xA g' o' → ¬ (g' = g ∧ o' = o) → H1[ad g' o']? = H[ad g' o']? := fun g' o' ha hne => oq _ (fun e => hne (hK.2.2.2 g' o' g o ha hx e))
  have o0 : o ≠ 0 := fun e => by rw [e, il0] at hn; exact absurd hn (by decide)
  obtain ⟨a1, a2, a3, a4, a5⟩ := h
  refine ⟨fun g' hg => ?_, fun g' o' hg => ?_, fun g' o' hg => ?_, ?_, ?_⟩
  · obtain ⟨r, h1, h3⟩ := a1 g' hg
    exact ⟨r, h1, (h3.kept (ne g' 0 (Or.inl ⟨rfl, hg⟩) (fun e => o0 e.2.symm))).to (fun k _ => (fv_same (hw g' 0 k (fun e => o0 e.2.symm)) h2).symm)⟩
  · by_cases e : g' = g ∧ o' = o
    · obtain ⟨rfl, rfl⟩ := e; exact he
    · rw [ne g' o' (Or.inr (Or.inl hg)) e, a2 g' o' hg]
      congr 2; funext j; rw [hw g' o' j e]
  · have e : ¬ (g' = g ∧ o' = o) := by rintro ⟨rfl, rfl⟩; rw [il_zl hn] at hg; exact absurd hg (by decide)
    rw [ne g' o' (Or.inr (Or.inr (Or.inl hg))) e, a3 g' o' hg]
    congr 2; funext j; rw [hw g' o' j e]
  · rw [ne 0 3 (Or.inr (Or.inr (Or.inr ⟨rfl, Or.inl rfl⟩))) (by rintro ⟨rfl, rfl⟩; exact (il_50 hn).1 rfl)]; exact a4
  · rw [ne 0 4 (Or.inr (Or.inr (Or.inr ⟨rfl, Or.inr rfl⟩))) (by rintro ⟨rfl, rfl⟩; exact (il_50 hn).2 rfl)]; exact a5
theorem WH.arrZ (hK : WK D cs ad s) (h : WH D cs ad w H) {g o : Nat} (hn : 0 < zl (kl g) o) (oq : ∀ q : Nat, q ≠ ad g o → H1[q]? = H[q]?) (he : H1[ad g o]? = some (arrV cs.2.1 (zl (kl g) o) (fun j => .int (rd w' g o j))))
    (hw : ∀ g' o' j, ¬ (g' = g ∧ o' = o) → rd w' g' o' j = rd w g' o' j) (h2 : w'.2 = w.2) : WH D cs ad w' H1 := by
  have hx : xA g o := Or.inr (Or.inr (Or.inl hn))
  have ne : ∀ g' o', xA g' o' → ¬ (g' = g ∧ o' = o) → H1[ad g' o']? = H[ad g' o']? := fun g' o' ha hne => oq _ (fun e => hne (hK.2.2.2 g' o' g o ha hx e))
  have o0 : o ≠ 0 := fun e => by rw [e, zl0] at hn; exact absurd hn (by decide)
  have z5 : ∀ o : Nat, zl 5 o = 0 := fun o => rfl
  obtain ⟨a1, a2, a3, a4, a5⟩ := h
  refine ⟨fun g' hg => ?_, fun g' o' hg => ?_, fun g' o' hg => ?_, ?_, ?_⟩
  · obtain ⟨r, h1, h3⟩ := a1 g' hg
    exact ⟨r, h1, (h3.kept (ne g' 0 (Or.inl ⟨rfl, hg⟩) (fun e => o0 e.2.symm))).to (fun k _ => (fv_same (hw g' 0 k (fun e => o0 e.2.symm)) h2).symm)⟩
  · have e : ¬ (g' = g ∧ o' = o) := by rintro ⟨rfl, rfl⟩; rw [il_zl hg] at hn; exact absurd hn (by decide)
    rw [ne g' o' (Or.inr (Or.inl hg)) e, a2 g' o' hg]
    congr 2; funext j; rw [hw g' o' j e]
  · by_cases e : g' = g ∧ o' = o
    · obtain ⟨rfl, rfl⟩ := e; exact he
    · rw [ne g' o' (Or.inr (Or.inr (Or.inl hg))) e, a3 g' o' hg]
      congr 2; funext j; rw [hw g' o' j e]
  · rw [ne 0 3 (Or.inr (Or.inr (Or.inr ⟨rfl, Or.inl rfl⟩))) (by rintro ⟨rfl, rfl⟩; exact absurd hn (by rw [show kl 0 = 5 from rfl, z5]; decide))]; exact a4
  · rw [ne 0 4 (Or.inr (Or.inr (Or.inr ⟨rfl, Or.inr rfl⟩))) (by rintro ⟨rfl, rfl⟩; exact absurd hn (by rw [show kl 0 = 5 from rfl, z5]; decide))]; exact a5
theorem WH.obj (hK : WK D cs ad s) (h : WH D cs ad w H) {g : Nat} (hg0 : kl g < 7) (oq : ∀ q : Nat, q ≠ ad g 0 → H1[q]? = H[q]?) {r : vw_C} (hr : vwCl[kl g]? = some r) (he : t_OB (ad g 0) (D.1 (kl g)) r.2.2 (D.2 (kl g)) H1 (fv ad w' g))
    (hw : ∀ g' o' j, ¬ (g' = g ∧ o' = 0) → rd w' g' o' j = rd w g' o' j) (h2 : ∀ g', g' ≠ g → ∀ k, fv ad w' g' k = fv ad w g' k) : WH D cs ad w' H1 := by
  have hx : xA g 0 := Or.inl ⟨rfl, hg0⟩
  have ne : ∀ g' o', xA g' o' → ¬ (g' = g ∧ o' = 0) → H1[ad g' o']? = H[ad g' o']? := fun g' o' ha hne => oq _ (fun e => hne (hK.2.2.2 g' o' g 0 ha hx e))
  obtain ⟨a1, a2, a3, a4, a5⟩ := h
  refine ⟨fun g' hg => ?_, fun g' o' hg => ?_, fun g' o' hg => ?_, ?_, ?_⟩
  · by_cases e : g' = g
    · subst e; exact ⟨r, hr, he⟩
    · obtain ⟨r', h1, h3⟩ := a1 g' hg
      exact ⟨r', h1, (h3.kept (ne g' 0 (Or.inl ⟨rfl, hg⟩) (fun z => e z.1))).to (fun k _ => (h2 g' e k).symm)⟩
  · have e : ¬ (g' = g ∧ o' = 0) := by rintro ⟨rfl, rfl⟩; rw [il0] at hg; exact absurd hg (by decide)
    rw [ne g' o' (Or.inr (Or.inl hg)) e, a2 g' o' hg]
    congr 2; funext j; rw [hw g' o' j e]
  · have e : ¬ (g' = g ∧ o' = 0) := by rintro ⟨rfl, rfl⟩; rw [zl0] at hg; exact absurd hg (by decide)
    rw [ne g' o' (Or.inr (Or.inr (Or.inl hg))) e, a3 g' o' hg]
    congr 2; funext j; rw [hw g' o' j e]
  · rw [ne 0 3 (Or.inr (Or.inr (Or.inr ⟨rfl, Or.inl rfl⟩))) (fun z => by cases z.2)]; exact a4
  · rw [ne 0 4 (Or.inr (Or.inr (Or.inr ⟨rfl, Or.inr rfl⟩))) (fun z => by cases z.2)]; exact a5
end CELLS
/-- a field as an instruction names it: own class, place in its pool; the class and the slot of the field -/
def FR (own : String) (idx c k : Nat) (ty : FieldType) (fin : Bool) : Prop := ∃ (N0 : String) (T : u_T) (N : Nat) (ty0 : Nat → FieldType), vwCl[c]? = some (N0, T, N) ∧ k < N ∧ Cond.fieldLink own idx (T k).1 (T k).2.1 (T k).2.2.1 ∈ wsG ∧
  (∀ w ∈ u_ws N0 T N, w ∈ wsG) ∧ (∀ k, k < N → parseFieldDescriptor (T k).2.2.1 = some (ty0 k)) ∧ (∀ a, a < N → ∀ b, b < N → a ≠ b → (T a).2.1 ≠ (T b).2.1) ∧ ty0 k = ty ∧ (T k).2.2.2 = fin
/-- a method as a callee -/
def MYV (y : MethodName) (cc : ByteArray) (nL : Nat) (ret : Option FieldType) (n : Nat) : Prop := Cond.instanceMethod y ∈ wsG ∧ Cond.selects y.cls y y ∈ wsG ∧ Cond.initialized y.cls ∈ wsG ∧ Cond.code y cc nL ret ∈ wsG ∧ y.cls ≠ "java/lang/invoke/MethodHandle" ∧ y.cls ≠ "java/lang/invoke/VarHandle" ∧ (parseMethodDescriptor y.desc).map (fun d => d.parameters.length) = some n
def MYS (y : MethodName) (cc : ByteArray) (nL : Nat) (ret : Option FieldType) (n : Nat) : Prop := Cond.static y ∈ wsG ∧ Cond.initialized y.cls ∈ wsG ∧ Cond.code y cc nL ret ∈ wsG ∧ y.cls ≠ "java/lang/invoke/MethodHandle" ∧ y.cls ≠ "java/lang/invoke/VarHandle" ∧ (parseMethodDescriptor y.desc).map (fun d => d.parameters.length) = some n

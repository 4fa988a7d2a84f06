/-! Arrays.fill and System.arraycopy. -/
section JDK
variable {p : Program} {l : Launch} {e : Env} {R : Room} {s : State} {m : MethodId} {args : Array Value} {below : List Frame} {meth : Method} {c : Code} {cc : ByteArray} {nL : Nat} {own : String} {y : MethodName} {ret : Option FieldType} {D : va_G} {cs : vCs} {ad : Nat → Nat → Nat} {Q : State → Prop}
variable {pc : Nat} {lv : List (Nat × Value)} {st : List Value} {w : Wd}
theorem x_iastD (E : EV p m c cc nL s args own y ret meth D cs ad) {g o0 n ci : Nat} (hkl : kl g = ci) (hn : il ci o0 = n) (hp : 0 < n) {i v : Int32} (d : decode cc pc = .ok (.iastore, 1)) (hin : ¬ (i < 0 ∨ n ≤ i.toNatClampNeg)) (k : XV p l e R s m args below meth c nL D cs ad Q (pc + 1) lv st (wr w g o0 i.toNatClampNeg v)) : XV p l e R s m args below meth c nL D cs ad Q pc lv (.int v :: .int i :: .ref (ad g o0) :: st) w :=
  x_iast (ρ := Wd) (r := wr w g o0 i.toNatClampNeg v) (K := fun w' => some w') E hkl hn hp d (by unfold pa; rw [if_pos hin]) (fun w' h => by cases h; exact k)
theorem x_copy (E : EV p m c cc nL s args own y ret meth D cs ad) {idx : Nat} (l1 : Cond.methodLink own idx arraycopyName ∈ wsG) (l2 : Cond.native arraycopyName ∈ wsG) (l3 : Cond.static arraycopyName ∈ wsG) (l4 : Cond.initialized "java/lang/System" ∈ wsG)
    {g o g' o' n0 n1 ci ci' nn : Nat} (hk0 : kl g = ci) (hk1 : kl g' = ci') (hn0 : il ci o = n0) (hn1 : il ci' o' = n1) {n : Int32} (h3 : ¬ n < 0) (hn : n.toNatClampNeg = nn) (hp : 0 < nn) (h4 : nn ≤ n0) (h5 : nn ≤ n1)
    (hf : 1 ≤ R.frames) (ho : (st.map fun v => v.category).sum + (nativeFrameWords "java/lang/System" "arraycopy" 5 + 11) ≤ R.locals) (d : decode cc pc = .ok (.invokestatic idx, 3))
    (k : XV p l e R s m args below meth c nL D cs ad Q (pc + 3) lv st (wcopy w g o g' o' nn)) : XV p l e R s m args below meth c nL D cs ad Q pc lv (.int n :: .int 0 :: .ref (ad g' o') :: .int 0 :: .ref (ad g o) :: st) w := by
  intro ls H locs hl hh hs
  subst hk0; subst hk1; subst hn0; subst hn1; subst hn
  have nn : ∀ z : Int32, ¬ z < 0 → z.toInt = (z.toNatClampNeg : Int) := by
    intro z hz
    have hz0 : (0 : Int) ≤ z.toInt := by
      have := Int32.not_lt.mp hz
      simpa using Int32.le_iff_toInt_le.mp this
    show z.toInt = ((z.toInt.toNat : Nat) : Int)
    omega
  intro T hT X
  have p0 : 0 < il (kl g) o := Nat.lt_of_lt_of_le hp h4
  have p1 : 0 < il (kl g') o' := Nat.lt_of_lt_of_le hp h5
  have hc0 : H[ad g o]? = some (arrV cs.1 (il (kl g) o) (fun j => .int (rd w g o j))) := hh.2.1 g o p0
  have hc1 : H[ad g' o']? = some (arrV cs.1 (il (kl g') o') (fun j => .int (rd w g' o' j))) := hh.2.1 g' o' p1
  obtain ⟨-, k0, hk0, cm0, hkk0⟩ := E.2.1.2.1.1 (il (kl g) o) (fun j => .int (rd w g o j))
  obtain ⟨-, k1, hk1, cm1, hkk1⟩ := E.2.1.2.1.1 (il (kl g') o') (fun j => .int (rd w g' o' j))
  have z0 : ¬ (0 : Int32) < 0 := by decide
  have zc : (0 : Int32).toNatClampNeg = 0 := rfl
  obtain ⟨vm', X', step⟩ := X.arraycopy E.1.1 E.1.2.2.2.1 (x_hts E _ l1) (x_hts E _ l2) (x_hts E _ l3) (x_hts E _ l4) (src := ad g o) (dst := ad g' o') (cs := arrV cs.1 (il (kl g) o) (fun j => .int (rd w g o j))) (cd := arrV cs.1 (il (kl g') o') (fun j => .int (rd w g' o' j))) (srcPos := 0) (destPos := 0) (n := n) (by rw [hT]; exact hc0) (by rw [hT]; exact hc1)
    (fun _ h => by cases h) (fun _ h => by cases h) (fun h => by cases h) (fun h => by cases h) hk0 hk1 hkk0 hkk1 (by simp [refKind]) z0 z0 h3
    (by rw [nn 0 z0, nn n h3, zc, arrV_size]; omega)
    (by rw [nn 0 z0, nn n h3, zc, arrV_size]; omega)
    (fun vm₁ _ i hi => by
      have e : (arrV cs.1 (il (kl g) o) (fun j => Value.int (rd w g o j))).slots.getD ((0 : Int32).toNatClampNeg + i) .null = .int (rd w g o i) := by
        rw [zc, Nat.zero_add, Array.getD_eq_getD_getElem?, arrV_read _ _ (by omega)]
        rfl
      refine ⟨?_, ?_⟩
      · rw [e]
        rfl
      · rw [e]
        exact trivial)
    (g := F0 m pc ls (.int n :: .int 0 :: .ref (ad g' o') :: .int 0 :: .ref (ad g o) :: st)) rfl (by rw [E.1.2.2.1]; exact hl.1) (rest := st) rfl (by rw [E.1.2.1]; exact d) hf (by show 2 * 0 + _ + _ ≤ _; omega)
  have e1 : copied (arrV cs.1 (il (kl g) o) (fun j => .int (rd w g o j))) (arrV cs.1 (il (kl g') o') (fun j => .int (rd w g' o' j))) 0 0 n = arrV cs.1 (il (kl g') o') (fun j => .int (rd (wcopy w g o g' o' n.toNatClampNeg) g' o' j)) := by
    refine (va_copied (fun z => Value.int z) cs.1 cs.1 (sp := 0) (dp := 0) (n := n.toNatClampNeg) (rd w g o) (rd w g' o') (by omega)).trans ?_
    congr 1
    funext j
    show Value.int (va_cpy (rd w g o) (rd w g' o') 0 0 n.toNatClampNeg j) = Value.int (if g' = g' ∧ o' = o' ∧ j < n.toNatClampNeg then w.1 g o j else w.1 g' o' j)
    unfold va_cpy
    by_cases hj : j < n.toNatClampNeg
    · rw [if_pos (by omega), if_pos ⟨rfl, rfl, hj⟩, Nat.sub_zero, Nat.zero_add]; rfl
    · rw [if_neg (by omega), if_neg (fun z => hj z.2.2)]; rfl
  rw [e1] at X' step
  have hlt : ad g' o' < H.size := (Array.getElem?_eq_some_iff.mp hc1).1
  generalize hcell : arrV cs.1 (il (kl g') o') (fun j => Value.int (rd (wcopy w g o g' o' n.toNatClampNeg) g' o' j)) = cellN at X' step
  have hheap : ((T.setVm vm').setCell (ad g' o') cellN).heap = H.setIfInBounds (ad g' o') cellN := by rw [← hT]; rfl
  have oq : ∀ q : Nat, q ≠ ad g' o' → (H.setIfInBounds (ad g' o') cellN)[q]? = H[q]? := fun q hq => by simp [Array.getElem?_setIfInBounds, Ne.symm hq]
  have hx1 : xF ad (ad g' o') := ⟨g', o', Or.inr (Or.inl p1), rfl⟩
  obtain ⟨t, a1, b1⟩ := k ls _ _ hl (hh.arr (w' := wcopy w g o g' o' n.toNatClampNeg) (H1 := H.setIfInBounds (ad g' o') cellN) E.2.1 p1 oq (by rw [hcell]; simp [Array.getElem?_setIfInBounds, hlt]) (fun a b j hne => by
      show (if a = g' ∧ b = o' ∧ j < n.toNatClampNeg then w.1 g o j else w.1 a b j) = w.1 a b j
      rw [if_neg (fun z => hne ⟨z.1, z.2.1⟩)]) rfl) ⟨by simp; exact hs.1, fun q g1 g2 => by
      rw [oq q (fun e => g2 (by rw [e]; exact hx1))]
      exact hs.2.1 q g1 g2, fun q hq => by
      rcases List.mem_append.mp hq with h | h
      · exact hs.2.2 q h
      · obtain ⟨z, -, hz⟩ := List.mem_map.mp h
        rw [← hz]
        exact hx1⟩ _ hheap X'
  exact ⟨t, step t a1, b1⟩
end JDK
theorem wfill_0 (w : Wd) (g o : Nat) (v : Int32) : wfill w g o 0 v = w := by
  unfold wfill
  simp
theorem wfill_s (w : Wd) (g o i : Nat) (v : Int32) : wr (wfill w g o i v) g o i v = wfill w g o (i + 1) v := by
  unfold wr wfill
  congr 1
  funext a b j
  dsimp only
  by_cases h : a = g ∧ b = o
  · obtain ⟨rfl, rfl⟩ := h
    by_cases hj : j = i
    · subst hj; simp
    · by_cases h2 : j < i
      · simp [hj, h2, Nat.lt_succ_of_lt h2]
      · simp [hj, h2, show ¬ j < i + 1 by omega]
  · rw [if_neg (fun z => h ⟨z.1, z.2.1⟩), if_neg (fun z => h ⟨z.1, z.2.1⟩), if_neg (fun z => h ⟨z.1, z.2.1⟩)]
set_option maxRecDepth 100000 in
set_option maxHeartbeats 4000000 in
theorem c_fill (l : Launch) (D : va_G) (cs : vCs) (ad : Nat → Nat → Nat) {w : Wd} {g o n ci : Nat} {v : Int32} (hkl : kl g = ci) (hn : il ci o = n) (hp : 0 < n) (hb : n < 2 ^ 31) : Mc l yJ7_fill_53178 cJ7_fill_53178 4 none 0 0 D cs ad [.ref (ad g o), .int v] w none (wfill w g o n v) := by
  refine Mc.of (by decide) (Nat.le_of_ble_eq_true rfl) ?_
  intro p e s m args below meth c E
  have L : ∀ k i, i + k = n → XV p l e { frames := 0, cells := 0, slots := 0, locals := 0 } s m args below meth c 4 D cs ad (MQ below (xQ D cs ad none (wfill w g o n v)) args s 0 0 (xF ad)) 5 [(3, .int (nI n)), (2, .int (nI i)), (0, .ref (ad g o)), (1, .int v)] [] (wfill w g o i v) := by
    intro k
    induction k with
    | zero =>
      intro i hi
      obtain rfl : i = n := by omega
      refine x_iload_n E dJ7_fill_53178_5 rfl 1 rfl ?_
      refine x_iload_n E dJ7_fill_53178_6 rfl 0 rfl ?_
      refine x_icmp_ge (A := True) (B := False) (r := True) (tgt := 20) E dJ7_fill_53178_7 (by decide) (if_pos (nI_le (Nat.le_refl _) hb)) (fun _ _ => ?_) (fun h _ => absurd (nI_le (Nat.le_refl _) hb) h)
      exact x_vret E dJ7_fill_53178_20
    | succ k ih =>
      intro i hi
      refine x_iload_n E dJ7_fill_53178_5 rfl 1 rfl ?_
      refine x_iload_n E dJ7_fill_53178_6 rfl 0 rfl ?_
      refine x_icmp_ge (A := False) (B := True) (r := True) (tgt := 20) E dJ7_fill_53178_7 (by decide) (if_neg (nI_ge (by omega) hb)) (fun h _ => absurd h (nI_ge (by omega) hb)) (fun _ _ => ?_)
      refine x_aload_n E dJ7_fill_53178_10 rfl 2 rfl ?_
      refine x_iload_n E dJ7_fill_53178_11 rfl 1 rfl ?_
      refine x_iload_n E dJ7_fill_53178_12 rfl 3 rfl ?_
      refine x_iastD E hkl hn hp dJ7_fill_53178_13 (nI_in (show i < n by omega) hb) ?_
      rw [nI_clamp (by omega), wfill_s]
      refine x_iinc (v := nI (i + 1)) (j := 1) E dJ7_fill_53178_14 rfl (by rw [nI_succ]; rfl) (by decide) rfl ?_
      refine x_goto (tgt := 5) E dJ7_fill_53178_17 (by decide) ?_
      exact x_weak [1, 0, 2, 3] rfl (ih (i + 1) (by omega))
  refine x_iconst (v := 0) E dJ7_fill_53178_0 (by decide) ?_
  refine x_istore_n E dJ7_fill_53178_1 rfl (by decide) rfl ?_
  refine x_aload_n E dJ7_fill_53178_2 rfl 1 rfl ?_
  refine x_alen E hkl hn hp rfl dJ7_fill_53178_3 ?_
  refine x_istore_n E dJ7_fill_53178_4 rfl (by decide) rfl ?_
  have h := L n 0 (by omega)
  rw [wfill_0] at h
  exact h
theorem my_fill : MYS yJ7_fill_53178 cJ7_fill_53178 4 none 2 := ⟨wG356, wG90, wG357, by decide, by decide, by decide +kernel⟩

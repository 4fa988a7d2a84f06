/-! A row an instruction. -/
/-- a name for a number -/
def bnd {α ρ : Type} (v : α) (k : α → ρ) : ρ := k v
/-- reading and writing a row: nothing if the index is outside -/
def ga {ρ : Type} (w : Wd) (g o n : Nat) (i : Int32) (k : Int32 → Option ρ) : Option ρ := if ¬ (i < 0 ∨ n ≤ i.toNatClampNeg) then k (rd w g o i.toNatClampNeg) else none
def pa {ρ : Type} (w : Wd) (g o n : Nat) (i v : Int32) (k : Wd → Option ρ) : Option ρ := if ¬ (i < 0 ∨ n ≤ i.toNatClampNeg) then k (wr w g o i.toNatClampNeg v) else none
/-- an index is looked at -/
def ix {ρ : Type} (n : Nat) (i : Int32) (k : Nat → Option ρ) : Option ρ := if ¬ (i < 0 ∨ n ≤ i.toNatClampNeg) then k i.toNatClampNeg else none
/-- a call that may have none: of a number, of the numbers, of both -/
def ob {α ρ : Type} (o : Option α) (k : α → Option ρ) : Option ρ := match o with
  | none => none
  | some a => k a
def bI {α ρ : Type} (o : Option (α × Wd)) (k : α → Wd → Option ρ) : Option ρ := match o with
  | none => none
  | some a => k a.1 a.2
theorem ob_inv {α ρ : Type} {o : Option α} {k : α → Option ρ} {r : ρ} (h : ob o k = some r) : ∃ a, o = some a ∧ k a = some r := by
  cases o with
  | none => cases h
  | some a => exact ⟨a, rfl, h⟩
theorem bI_inv {α ρ : Type} {o : Option (α × Wd)} {k : α → Wd → Option ρ} {r : ρ} (h : bI o k = some r) : ∃ a w', o = some (a, w') ∧ k a w' = some r := by
  cases o with
  | none => cases h
  | some a => exact ⟨a.1, a.2, rfl, h⟩
/-- a truth value -/
def isB (x : Int32) : Prop := x = 0 ∨ x = 1
def zb {ρ : Type} (x : Int32) (k : Option ρ) : Option ρ := if x = 0 then k else if x = 1 then k else none
theorem zb_inv {ρ : Type} {x : Int32} {k : Option ρ} {r : ρ} (h : zb x k = some r) : isB x ∧ k = some r := by
  unfold zb at h
  split at h
  · rename_i e; exact ⟨Or.inl e, h⟩
  · split at h
    · rename_i e; exact ⟨Or.inr e, h⟩
    · cases h
theorem isB_nar {x : Int32} (h : isB x) : narrow .boolean (.int x) = .int x := by rcases h with rfl | rfl <;> rfl
theorem fk2 {c k : Nat} (h : fk c k = 2) : c = 6 ∧ k = 34 := by
  unfold fk at h
  split at h <;> first | exact ⟨rfl, rfl⟩ | exact absurd h (by decide)
theorem kl6 {g : Nat} (h : kl g = 6) : g = 12 := by
  unfold kl at h
  repeat' split at h
  all_goals first | omega | (exact absurd h (by decide))
def irm (x y : Int32) : Int32 := x - x / y * y
def imax (x y : Int32) : Int32 := if x < y then y else x
def imin (x y : Int32) : Int32 := if y < x then y else x
section ROWS
variable {p : Program} {l : Launch} {e : Env} {R : Room} {s : State} {m : MethodId} {args : Array Value} {below : List Frame} {meth : Method} {c : Code} {cc : ByteArray} {nL : Nat} {own : String} {y : MethodName} {ret : Option FieldType} {D : va_G} {cs : vCs} {ad : Nat → Nat → Nat} {Q : State → Prop}
variable {pc : Nat} {lv : List (Nat × Value)} {st : List Value} {w : Wd}
theorem x_iconst (E : EV p m c cc nL s args own y ret meth D cs ad) {n : Int} {v : Int32} (d : decode cc pc = .ok (.iconst n, 1)) (hv : Int32.ofInt n = v) (k : XV p l e R s m args below meth c nL D cs ad Q (pc + 1) lv (.int v :: st) w) : XV p l e R s m args below meth c nL D cs ad Q pc lv st w := fun ls H locs hl hh hs => lv_iconst E.1.1 E.1.2.1 d hv (k ls H locs hl hh hs)
theorem x_bipush (E : EV p m c cc nL s args own y ret meth D cs ad) {n : Int} {v : Int32} (d : decode cc pc = .ok (.bipush n, 2)) (hv : (Int8.ofInt n).toInt32 = v) (k : XV p l e R s m args below meth c nL D cs ad Q (pc + 2) lv (.int v :: st) w) : XV p l e R s m args below meth c nL D cs ad Q pc lv st w := fun ls H locs hl hh hs => lv_bipush E.1.1 E.1.2.1 d hv (k ls H locs hl hh hs)
theorem x_sipush (E : EV p m c cc nL s args own y ret meth D cs ad) {n : Int} {v : Int32} (d : decode cc pc = .ok (.sipush n, 3)) (hv : (Int16.ofInt n).toInt32 = v) (k : XV p l e R s m args below meth c nL D cs ad Q (pc + 3) lv (.int v :: st) w) : XV p l e R s m args below meth c nL D cs ad Q pc lv st w := fun ls H locs hl hh hs => lv_sipush E.1.1 E.1.2.1 d hv (k ls H locs hl hh hs)
theorem x_ldc (E : EV p m c cc nL s args own y ret meth D cs ad) {idx : Nat} {v : Int32} (hw : Cond.constant own idx v ∈ wsG) (d : decode cc pc = .ok (.ldc idx, 2)) (k : XV p l e R s m args below meth c nL D cs ad Q (pc + 2) lv (.int v :: st) w) : XV p l e R s m args below meth c nL D cs ad Q pc lv st w := fun ls H locs hl hh hs => lv_ldc E.1.1 E.1.2.1 E.1.2.2.2.1 (E.1.2.2.2.2 _ (List.mem_cons_of_mem _ hw)) d (k ls H locs hl hh hs)
theorem x_ldc2 (E : EV p m c cc nL s args own y ret meth D cs ad) {idx : Nat} {v : Int64} (hw : Cond.constantLong own idx v ∈ wsG) (d : decode cc pc = .ok (.ldc2_w idx, 3)) (k : XV p l e R s m args below meth c nL D cs ad Q (pc + 3) lv (.long v :: st) w) : XV p l e R s m args below meth c nL D cs ad Q pc lv st w := fun ls H locs hl hh hs => lv_ldc2 E.1.1 E.1.2.1 E.1.2.2.2.1 (E.1.2.2.2.2 _ (List.mem_cons_of_mem _ hw)) d (k ls H locs hl hh hs)
theorem x_iload_n (E : EV p m c cc nL s args own y ret meth D cs ad) {k0 : Fin 4} {i : Nat} {x : Int32} (d : decode cc pc = .ok (.iload_n k0, 1)) (hi : (k0 : Nat) = i) (j : Nat) (hj : lv[j]? = some (i, .int x)) (k : XV p l e R s m args below meth c nL D cs ad Q (pc + 1) lv (.int x :: st) w) : XV p l e R s m args below meth c nL D cs ad Q pc lv st w := fun ls H locs hl hh hs => lv_iload_n E.1.1 E.1.2.1 d hi (lv_at hl j hj) (k ls H locs hl hh hs)
theorem x_iload (E : EV p m c cc nL s args own y ret meth D cs ad) {i : Nat} {x : Int32} (d : decode cc pc = .ok (.iload i, 2)) (j : Nat) (hj : lv[j]? = some (i, .int x)) (k : XV p l e R s m args below meth c nL D cs ad Q (pc + 2) lv (.int x :: st) w) : XV p l e R s m args below meth c nL D cs ad Q pc lv st w := fun ls H locs hl hh hs => lv_iload E.1.1 E.1.2.1 d (lv_at hl j hj) (k ls H locs hl hh hs)
theorem x_istore_n (E : EV p m c cc nL s args own y ret meth D cs ad) {k0 : Fin 4} {i : Nat} {x : Int32} {lv' : List (Nat × Value)} (d : decode cc pc = .ok (.istore_n k0, 1)) (hi : (k0 : Nat) = i) (hn : i < nL) (hl2 : (i, Value.int x) :: lv.filter (fun q => !(q.1 == i) && !(q.1 + 1 == i && q.2.category == 2)) = lv') (k : XV p l e R s m args below meth c nL D cs ad Q (pc + 1) lv' st w) : XV p l e R s m args below meth c nL D cs ad Q pc lv (.int x :: st) w := fun ls H locs hl hh hs => lv_istore_n E.1.1 E.1.2.1 d hi hl hn hl2 (fun ls hl => k ls H locs hl hh hs)
theorem x_istore (E : EV p m c cc nL s args own y ret meth D cs ad) {i : Nat} {x : Int32} {lv' : List (Nat × Value)} (d : decode cc pc = .ok (.istore i, 2)) (hn : i < nL) (hl2 : (i, Value.int x) :: lv.filter (fun q => !(q.1 == i) && !(q.1 + 1 == i && q.2.category == 2)) = lv') (k : XV p l e R s m args below meth c nL D cs ad Q (pc + 2) lv' st w) : XV p l e R s m args below meth c nL D cs ad Q pc lv (.int x :: st) w := fun ls H locs hl hh hs => lv_istore E.1.1 E.1.2.1 d hl hn hl2 (fun ls hl => k ls H locs hl hh hs)
theorem x_lload_n (E : EV p m c cc nL s args own y ret meth D cs ad) {k0 : Fin 4} {i : Nat} {x : Int64} (d : decode cc pc = .ok (.lload_n k0, 1)) (hi : (k0 : Nat) = i) (j : Nat) (hj : lv[j]? = some (i, .long x)) (k : XV p l e R s m args below meth c nL D cs ad Q (pc + 1) lv (.long x :: st) w) : XV p l e R s m args below meth c nL D cs ad Q pc lv st w := fun ls H locs hl hh hs => lv_lload_n E.1.1 E.1.2.1 d hi (lv_at hl j hj) (k ls H locs hl hh hs)
theorem x_lload (E : EV p m c cc nL s args own y ret meth D cs ad) {i : Nat} {x : Int64} (d : decode cc pc = .ok (.lload i, 2)) (j : Nat) (hj : lv[j]? = some (i, .long x)) (k : XV p l e R s m args below meth c nL D cs ad Q (pc + 2) lv (.long x :: st) w) : XV p l e R s m args below meth c nL D cs ad Q pc lv st w := fun ls H locs hl hh hs => lv_lload E.1.1 E.1.2.1 d (lv_at hl j hj) (k ls H locs hl hh hs)
theorem x_lstore_n (E : EV p m c cc nL s args own y ret meth D cs ad) {k0 : Fin 4} {i : Nat} {x : Int64} {lv' : List (Nat × Value)} (d : decode cc pc = .ok (.lstore_n k0, 1)) (hi : (k0 : Nat) = i) (hn : i + 1 < nL) (hl2 : (i, Value.long x) :: lv.filter (fun q => !(q.1 == i) && (!(q.1 == i + 1) && !(q.1 + 1 == i && q.2.category == 2))) = lv') (k : XV p l e R s m args below meth c nL D cs ad Q (pc + 1) lv' st w) : XV p l e R s m args below meth c nL D cs ad Q pc lv (.long x :: st) w := fun ls H locs hl hh hs => lv_lstore_n E.1.1 E.1.2.1 d hi hl hn hl2 (fun ls hl => k ls H locs hl hh hs)
theorem x_lstore (E : EV p m c cc nL s args own y ret meth D cs ad) {i : Nat} {x : Int64} {lv' : List (Nat × Value)} (d : decode cc pc = .ok (.lstore i, 2)) (hn : i + 1 < nL) (hl2 : (i, Value.long x) :: lv.filter (fun q => !(q.1 == i) && (!(q.1 == i + 1) && !(q.1 + 1 == i && q.2.category == 2))) = lv') (k : XV p l e R s m args below meth c nL D cs ad Q (pc + 2) lv' st w) : XV p l e R s m args below meth c nL D cs ad Q pc lv (.long x :: st) w := fun ls H locs hl hh hs => lv_lstore E.1.1 E.1.2.1 d hl hn hl2 (fun ls hl => k ls H locs hl hh hs)
theorem x_aload_n (E : EV p m c cc nL s args own y ret meth D cs ad) {k0 : Fin 4} {i : Nat} {x : Nat} (d : decode cc pc = .ok (.aload_n k0, 1)) (hi : (k0 : Nat) = i) (j : Nat) (hj : lv[j]? = some (i, .ref x)) (k : XV p l e R s m args below meth c nL D cs ad Q (pc + 1) lv (.ref x :: st) w) : XV p l e R s m args below meth c nL D cs ad Q pc lv st w := fun ls H locs hl hh hs => lv_aload_n E.1.1 E.1.2.1 d hi (lv_at hl j hj) (k ls H locs hl hh hs)
theorem x_aload (E : EV p m c cc nL s args own y ret meth D cs ad) {i : Nat} {x : Nat} (d : decode cc pc = .ok (.aload i, 2)) (j : Nat) (hj : lv[j]? = some (i, .ref x)) (k : XV p l e R s m args below meth c nL D cs ad Q (pc + 2) lv (.ref x :: st) w) : XV p l e R s m args below meth c nL D cs ad Q pc lv st w := fun ls H locs hl hh hs => lv_aload E.1.1 E.1.2.1 d (lv_at hl j hj) (k ls H locs hl hh hs)
theorem x_astore_n (E : EV p m c cc nL s args own y ret meth D cs ad) {k0 : Fin 4} {i : Nat} {x : Nat} {lv' : List (Nat × Value)} (d : decode cc pc = .ok (.astore_n k0, 1)) (hi : (k0 : Nat) = i) (hn : i < nL) (hl2 : (i, Value.ref x) :: lv.filter (fun q => !(q.1 == i) && !(q.1 + 1 == i && q.2.category == 2)) = lv') (k : XV p l e R s m args below meth c nL D cs ad Q (pc + 1) lv' st w) : XV p l e R s m args below meth c nL D cs ad Q pc lv (.ref x :: st) w := fun ls H locs hl hh hs => lv_astore_n E.1.1 E.1.2.1 d hi hl hn hl2 (fun ls hl => k ls H locs hl hh hs)
theorem x_astore (E : EV p m c cc nL s args own y ret meth D cs ad) {i : Nat} {x : Nat} {lv' : List (Nat × Value)} (d : decode cc pc = .ok (.astore i, 2)) (hn : i < nL) (hl2 : (i, Value.ref x) :: lv.filter (fun q => !(q.1 == i) && !(q.1 + 1 == i && q.2.category == 2)) = lv') (k : XV p l e R s m args below meth c nL D cs ad Q (pc + 2) lv' st w) : XV p l e R s m args below meth c nL D cs ad Q pc lv (.ref x :: st) w := fun ls H locs hl hh hs => lv_astore E.1.1 E.1.2.1 d hl hn hl2 (fun ls hl => k ls H locs hl hh hs)
theorem x_iinc (E : EV p m c cc nL s args own y ret meth D cs ad) {i j : Nat} {n : Int} {x v : Int32} {lv' : List (Nat × Value)} (d : decode cc pc = .ok (.iinc i n, 3)) (hj : lv[j]? = some (i, .int x)) (hv : x + Int32.ofInt n = v) (hn : i < nL) (hl2 : (i, Value.int v) :: lv.filter (fun q => !(q.1 == i) && !(q.1 + 1 == i && q.2.category == 2)) = lv') (k : XV p l e R s m args below meth c nL D cs ad Q (pc + 3) lv' st w) : XV p l e R s m args below meth c nL D cs ad Q pc lv st w := fun ls H locs hl hh hs => lv_iinc E.1.1 E.1.2.1 d hl hj hv hn hl2 (fun ls hl => k ls H locs hl hh hs)
theorem x_iadd (E : EV p m c cc nL s args own y ret meth D cs ad) {x y2 : Int32} (d : decode cc pc = .ok (.iadd, 1)) (k : XV p l e R s m args below meth c nL D cs ad Q (pc + 1) lv (.int (x + y2) :: st) w) : XV p l e R s m args below meth c nL D cs ad Q pc lv (.int y2 :: .int x :: st) w := fun ls H locs hl hh hs => lv_iadd E.1.1 E.1.2.1 d (k ls H locs hl hh hs)
theorem x_isub (E : EV p m c cc nL s args own y ret meth D cs ad) {x y2 : Int32} (d : decode cc pc = .ok (.isub, 1)) (k : XV p l e R s m args below meth c nL D cs ad Q (pc + 1) lv (.int (x - y2) :: st) w) : XV p l e R s m args below meth c nL D cs ad Q pc lv (.int y2 :: .int x :: st) w := fun ls H locs hl hh hs => lv_isub E.1.1 E.1.2.1 d (k ls H locs hl hh hs)
theorem x_imul (E : EV p m c cc nL s args own y ret meth D cs ad) {x y2 : Int32} (d : decode cc pc = .ok (.imul, 1)) (k : XV p l e R s m args below meth c nL D cs ad Q (pc + 1) lv (.int (x * y2) :: st) w) : XV p l e R s m args below meth c nL D cs ad Q pc lv (.int y2 :: .int x :: st) w := fun ls H locs hl hh hs => lv_imul E.1.1 E.1.2.1 d (k ls H locs hl hh hs)
theorem x_iand (E : EV p m c cc nL s args own y ret meth D cs ad) {x y2 : Int32} (d : decode cc pc = .ok (.iand, 1)) (k : XV p l e R s m args below meth c nL D cs ad Q (pc + 1) lv (.int (x &&& y2) :: st) w) : XV p l e R s m args below meth c nL D cs ad Q pc lv (.int y2 :: .int x :: st) w := fun ls H locs hl hh hs => lv_iand E.1.1 E.1.2.1 d (k ls H locs hl hh hs)
theorem x_ior (E : EV p m c cc nL s args own y ret meth D cs ad) {x y2 : Int32} (d : decode cc pc = .ok (.ior, 1)) (k : XV p l e R s m args below meth c nL D cs ad Q (pc + 1) lv (.int (x ||| y2) :: st) w) : XV p l e R s m args below meth c nL D cs ad Q pc lv (.int y2 :: .int x :: st) w := fun ls H locs hl hh hs => lv_ior E.1.1 E.1.2.1 d (k ls H locs hl hh hs)
theorem x_ishl (E : EV p m c cc nL s args own y ret meth D cs ad) {x y2 : Int32} (d : decode cc pc = .ok (.ishl, 1)) (k : XV p l e R s m args below meth c nL D cs ad Q (pc + 1) lv (.int (x <<< (y2 &&& 31)) :: st) w) : XV p l e R s m args below meth c nL D cs ad Q pc lv (.int y2 :: .int x :: st) w := fun ls H locs hl hh hs => lv_ishl E.1.1 E.1.2.1 d (k ls H locs hl hh hs)
theorem x_ishr (E : EV p m c cc nL s args own y ret meth D cs ad) {x y2 : Int32} (d : decode cc pc = .ok (.ishr, 1)) (k : XV p l e R s m args below meth c nL D cs ad Q (pc + 1) lv (.int (x >>> (y2 &&& 31)) :: st) w) : XV p l e R s m args below meth c nL D cs ad Q pc lv (.int y2 :: .int x :: st) w := fun ls H locs hl hh hs => lv_ishr E.1.1 E.1.2.1 d (k ls H locs hl hh hs)
theorem x_ladd (E : EV p m c cc nL s args own y ret meth D cs ad) {x y2 : Int64} (d : decode cc pc = .ok (.ladd, 1)) (k : XV p l e R s m args below meth c nL D cs ad Q (pc + 1) lv (.long (x + y2) :: st) w) : XV p l e R s m args below meth c nL D cs ad Q pc lv (.long y2 :: .long x :: st) w := fun ls H locs hl hh hs => lv_ladd E.1.1 E.1.2.1 d (k ls H locs hl hh hs)
theorem x_lmul (E : EV p m c cc nL s args own y ret meth D cs ad) {x y2 : Int64} (d : decode cc pc = .ok (.lmul, 1)) (k : XV p l e R s m args below meth c nL D cs ad Q (pc + 1) lv (.long (x * y2) :: st) w) : XV p l e R s m args below meth c nL D cs ad Q pc lv (.long y2 :: .long x :: st) w := fun ls H locs hl hh hs => lv_lmul E.1.1 E.1.2.1 d (k ls H locs hl hh hs)
theorem x_idiv (E : EV p m c cc nL s args own y ret meth D cs ad) {x y2 : Int32} (d : decode cc pc = .ok (.idiv, 1)) (hne : ¬ y2 = 0) (k : XV p l e R s m args below meth c nL D cs ad Q (pc + 1) lv (.int (x / y2) :: st) w) : XV p l e R s m args below meth c nL D cs ad Q pc lv (.int y2 :: .int x :: st) w := fun ls H locs hl hh hs => lv_idiv E.1.1 E.1.2.1 d hne (k ls H locs hl hh hs)
theorem x_irem (E : EV p m c cc nL s args own y ret meth D cs ad) {x y2 : Int32} (d : decode cc pc = .ok (.irem, 1)) (hne : ¬ y2 = 0) (k : XV p l e R s m args below meth c nL D cs ad Q (pc + 1) lv (.int (irm x y2) :: st) w) : XV p l e R s m args below meth c nL D cs ad Q pc lv (.int y2 :: .int x :: st) w := fun ls H locs hl hh hs => lv_irem E.1.1 E.1.2.1 d hne (k ls H locs hl hh hs)
theorem x_i2l (E : EV p m c cc nL s args own y ret meth D cs ad) {x : Int32} (d : decode cc pc = .ok (.i2l, 1)) (k : XV p l e R s m args below meth c nL D cs ad Q (pc + 1) lv (.long x.toInt64 :: st) w) : XV p l e R s m args below meth c nL D cs ad Q pc lv (.int x :: st) w := fun ls H locs hl hh hs => lv_i2l E.1.1 E.1.2.1 d rfl (k ls H locs hl hh hs)
theorem x_dup (E : EV p m c cc nL s args own y ret meth D cs ad) {va : Value} (d : decode cc pc = .ok (.dup, 1)) (h1 : va.category = 1) (k : XV p l e R s m args below meth c nL D cs ad Q (pc + 1) lv (va :: va :: st) w) : XV p l e R s m args below meth c nL D cs ad Q pc lv (va :: st) w := fun ls H locs hl hh hs => lv_dup E.1.1 E.1.2.1 d h1 (k ls H locs hl hh hs)
theorem x_dup2 (E : EV p m c cc nL s args own y ret meth D cs ad) {va vb : Value} (d : decode cc pc = .ok (.dup2, 1)) (h1 : va.category = 1) (h2 : vb.category = 1) (k : XV p l e R s m args below meth c nL D cs ad Q (pc + 1) lv (va :: vb :: va :: vb :: st) w) : XV p l e R s m args below meth c nL D cs ad Q pc lv (va :: vb :: st) w := fun ls H locs hl hh hs => lv_dup2_11 E.1.1 E.1.2.1 d h1 h2 (k ls H locs hl hh hs)
theorem x_pop (E : EV p m c cc nL s args own y ret meth D cs ad) {va : Value} (d : decode cc pc = .ok (.pop, 1)) (h1 : va.category = 1) (k : XV p l e R s m args below meth c nL D cs ad Q (pc + 1) lv st w) : XV p l e R s m args below meth c nL D cs ad Q pc lv (va :: st) w := fun ls H locs hl hh hs => lv_pop E.1.1 E.1.2.1 d h1 (k ls H locs hl hh hs)
theorem x_dup_x1 (E : EV p m c cc nL s args own y ret meth D cs ad) {va vb : Value} (d : decode cc pc = .ok (.dup_x1, 1)) (h1 : va.category = 1) (h2 : vb.category = 1) (k : XV p l e R s m args below meth c nL D cs ad Q (pc + 1) lv (va :: vb :: va :: st) w) : XV p l e R s m args below meth c nL D cs ad Q pc lv (va :: vb :: st) w := fun ls H locs hl hh hs => lv_dup_x1 E.1.1 E.1.2.1 d h1 h2 (k ls H locs hl hh hs)
theorem x_goto (E : EV p m c cc nL s args own y ret meth D cs ad) {off : Int} {tgt : Nat} (d : decode cc pc = .ok (.goto off, 3)) (ht : (pc : Int) + off = (tgt : Int)) (k : XV p l e R s m args below meth c nL D cs ad Q tgt lv st w) : XV p l e R s m args below meth c nL D cs ad Q pc lv st w := fun ls H locs hl hh hs => lv_goto E.1.1 E.1.2.1 d ht (k ls H locs hl hh hs)
theorem x_if_eq (E : EV p m c cc nL s args own y ret meth D cs ad) {x : Int32} {ρ : Type} {A B r : ρ} {off : Int} {tgt : Nat} (d : decode cc pc = .ok (.ifCond .eq off, 3)) (ht : (pc : Int) + off = (tgt : Int)) (hm : (if x = 0 then A else B) = r) (kt : x = 0 → A = r → XV p l e R s m args below meth c nL D cs ad Q tgt lv st w) (kf : ¬ (x = 0) → B = r → XV p l e R s m args below meth c nL D cs ad Q (pc + 3) lv st w) : XV p l e R s m args below meth c nL D cs ad Q pc lv (.int x :: st) w := fun ls H locs hl hh hs => lv_if_eq E.1.1 E.1.2.1 d ht (fun h => kt h ((if_pos h).symm.trans hm) ls H locs hl hh hs) (fun h => kf h ((if_neg h).symm.trans hm) ls H locs hl hh hs)
theorem x_icmp_eq (E : EV p m c cc nL s args own y ret meth D cs ad) {x y2 : Int32} {ρ : Type} {A B r : ρ} {off : Int} {tgt : Nat} (d : decode cc pc = .ok (.if_icmp .eq off, 3)) (ht : (pc : Int) + off = (tgt : Int)) (hm : (if x = y2 then A else B) = r) (kt : x = y2 → A = r → XV p l e R s m args below meth c nL D cs ad Q tgt lv st w) (kf : ¬ (x = y2) → B = r → XV p l e R s m args below meth c nL D cs ad Q (pc + 3) lv st w) : XV p l e R s m args below meth c nL D cs ad Q pc lv (.int y2 :: .int x :: st) w := fun ls H locs hl hh hs => lv_icmp_eq E.1.1 E.1.2.1 d ht (fun h => kt h ((if_pos h).symm.trans hm) ls H locs hl hh hs) (fun h => kf h ((if_neg h).symm.trans hm) ls H locs hl hh hs)
theorem x_if_ne (E : EV p m c cc nL s args own y ret meth D cs ad) {x : Int32} {ρ : Type} {A B r : ρ} {off : Int} {tgt : Nat} (d : decode cc pc = .ok (.ifCond .ne off, 3)) (ht : (pc : Int) + off = (tgt : Int)) (hm : (if x = 0 then B else A) = r) (kt : ¬ x = 0 → A = r → XV p l e R s m args below meth c nL D cs ad Q tgt lv st w) (kf : x = 0 → B = r → XV p l e R s m args below meth c nL D cs ad Q (pc + 3) lv st w) : XV p l e R s m args below meth c nL D cs ad Q pc lv (.int x :: st) w := fun ls H locs hl hh hs => lv_if_ne E.1.1 E.1.2.1 d ht (fun h => kt h ((if_neg h).symm.trans hm) ls H locs hl hh hs) (fun h => kf h ((if_pos h).symm.trans hm) ls H locs hl hh hs)
theorem x_icmp_ne (E : EV p m c cc nL s args own y ret meth D cs ad) {x y2 : Int32} {ρ : Type} {A B r : ρ} {off : Int} {tgt : Nat} (d : decode cc pc = .ok (.if_icmp .ne off, 3)) (ht : (pc : Int) + off = (tgt : Int)) (hm : (if x = y2 then B else A) = r) (kt : ¬ x = y2 → A = r → XV p l e R s m args below meth c nL D cs ad Q tgt lv st w) (kf : x = y2 → B = r → XV p l e R s m args below meth c nL D cs ad Q (pc + 3) lv st w) : XV p l e R s m args below meth c nL D cs ad Q pc lv (.int y2 :: .int x :: st) w := fun ls H locs hl hh hs => lv_icmp_ne E.1.1 E.1.2.1 d ht (fun h => kt h ((if_neg h).symm.trans hm) ls H locs hl hh hs) (fun h => kf h ((if_pos h).symm.trans hm) ls H locs hl hh hs)
theorem x_if_lt (E : EV p m c cc nL s args own y ret meth D cs ad) {x : Int32} {ρ : Type} {A B r : ρ} {off : Int} {tgt : Nat} (d : decode cc pc = .ok (.ifCond .lt off, 3)) (ht : (pc : Int) + off = (tgt : Int)) (hm : (if x < 0 then A else B) = r) (kt : x < 0 → A = r → XV p l e R s m args below meth c nL D cs ad Q tgt lv st w) (kf : ¬ (x < 0) → B = r → XV p l e R s m args below meth c nL D cs ad Q (pc + 3) lv st w) : XV p l e R s m args below meth c nL D cs ad Q pc lv (.int x :: st) w := fun ls H locs hl hh hs => lv_if_lt E.1.1 E.1.2.1 d ht (fun h => kt h ((if_pos h).symm.trans hm) ls H locs hl hh hs) (fun h => kf h ((if_neg h).symm.trans hm) ls H locs hl hh hs)
theorem x_icmp_lt (E : EV p m c cc nL s args own y ret meth D cs ad) {x y2 : Int32} {ρ : Type} {A B r : ρ} {off : Int} {tgt : Nat} (d : decode cc pc = .ok (.if_icmp .lt off, 3)) (ht : (pc : Int) + off = (tgt : Int)) (hm : (if x < y2 then A else B) = r) (kt : x < y2 → A = r → XV p l e R s m args below meth c nL D cs ad Q tgt lv st w) (kf : ¬ (x < y2) → B = r → XV p l e R s m args below meth c nL D cs ad Q (pc + 3) lv st w) : XV p l e R s m args below meth c nL D cs ad Q pc lv (.int y2 :: .int x :: st) w := fun ls H locs hl hh hs => lv_icmp_lt E.1.1 E.1.2.1 d ht (fun h => kt h ((if_pos h).symm.trans hm) ls H locs hl hh hs) (fun h => kf h ((if_neg h).symm.trans hm) ls H locs hl hh hs)
theorem x_if_ge (E : EV p m c cc nL s args own y ret meth D cs ad) {x : Int32} {ρ : Type} {A B r : ρ} {off : Int} {tgt : Nat} (d : decode cc pc = .ok (.ifCond .ge off, 3)) (ht : (pc : Int) + off = (tgt : Int)) (hm : (if 0 ≤ x then A else B) = r) (kt : 0 ≤ x → A = r → XV p l e R s m args below meth c nL D cs ad Q tgt lv st w) (kf : ¬ (0 ≤ x) → B = r → XV p l e R s m args below meth c nL D cs ad Q (pc + 3) lv st w) : XV p l e R s m args below meth c nL D cs ad Q pc lv (.int x :: st) w := fun ls H locs hl hh hs => lv_if_ge E.1.1 E.1.2.1 d ht (fun h => kt h ((if_pos h).symm.trans hm) ls H locs hl hh hs) (fun h => kf h ((if_neg h).symm.trans hm) ls H locs hl hh hs)
theorem x_icmp_ge (E : EV p m c cc nL s args own y ret meth D cs ad) {x y2 : Int32} {ρ : Type} {A B r : ρ} {off : Int} {tgt : Nat} (d : decode cc pc = .ok (.if_icmp .ge off, 3)) (ht : (pc : Int) + off = (tgt : Int)) (hm : (if y2 ≤ x then A else B) = r) (kt : y2 ≤ x → A = r → XV p l e R s m args below meth c nL D cs ad Q tgt lv st w) (kf : ¬ (y2 ≤ x) → B = r → XV p l e R s m args below meth c nL D cs ad Q (pc + 3) lv st w) : XV p l e R s m args below meth c nL D cs ad Q pc lv (.int y2 :: .int x :: st) w := fun ls H locs hl hh hs => lv_icmp_ge E.1.1 E.1.2.1 d ht (fun h => kt h ((if_pos h).symm.trans hm) ls H locs hl hh hs) (fun h => kf h ((if_neg h).symm.trans hm) ls H locs hl hh hs)
theorem x_if_gt (E : EV p m c cc nL s args own y ret meth D cs ad) {x : Int32} {ρ : Type} {A B r : ρ} {off : Int} {tgt : Nat} (d : decode cc pc = .ok (.ifCond .gt off, 3)) (ht : (pc : Int) + off = (tgt : Int)) (hm : (if 0 < x then A else B) = r) (kt : 0 < x → A = r → XV p l e R s m args below meth c nL D cs ad Q tgt lv st w) (kf : ¬ (0 < x) → B = r → XV p l e R s m args below meth c nL D cs ad Q (pc + 3) lv st w) : XV p l e R s m args below meth c nL D cs ad Q pc lv (.int x :: st) w := fun ls H locs hl hh hs => lv_if_gt E.1.1 E.1.2.1 d ht (fun h => kt h ((if_pos h).symm.trans hm) ls H locs hl hh hs) (fun h => kf h ((if_neg h).symm.trans hm) ls H locs hl hh hs)
theorem x_icmp_gt (E : EV p m c cc nL s args own y ret meth D cs ad) {x y2 : Int32} {ρ : Type} {A B r : ρ} {off : Int} {tgt : Nat} (d : decode cc pc = .ok (.if_icmp .gt off, 3)) (ht : (pc : Int) + off = (tgt : Int)) (hm : (if y2 < x then A else B) = r) (kt : y2 < x → A = r → XV p l e R s m args below meth c nL D cs ad Q tgt lv st w) (kf : ¬ (y2 < x) → B = r → XV p l e R s m args below meth c nL D cs ad Q (pc + 3) lv st w) : XV p l e R s m args below meth c nL D cs ad Q pc lv (.int y2 :: .int x :: st) w := fun ls H locs hl hh hs => lv_icmp_gt E.1.1 E.1.2.1 d ht (fun h => kt h ((if_pos h).symm.trans hm) ls H locs hl hh hs) (fun h => kf h ((if_neg h).symm.trans hm) ls H locs hl hh hs)
theorem x_if_le (E : EV p m c cc nL s args own y ret meth D cs ad) {x : Int32} {ρ : Type} {A B r : ρ} {off : Int} {tgt : Nat} (d : decode cc pc = .ok (.ifCond .le off, 3)) (ht : (pc : Int) + off = (tgt : Int)) (hm : (if x ≤ 0 then A else B) = r) (kt : x ≤ 0 → A = r → XV p l e R s m args below meth c nL D cs ad Q tgt lv st w) (kf : ¬ (x ≤ 0) → B = r → XV p l e R s m args below meth c nL D cs ad Q (pc + 3) lv st w) : XV p l e R s m args below meth c nL D cs ad Q pc lv (.int x :: st) w := fun ls H locs hl hh hs => lv_if_le E.1.1 E.1.2.1 d ht (fun h => kt h ((if_pos h).symm.trans hm) ls H locs hl hh hs) (fun h => kf h ((if_neg h).symm.trans hm) ls H locs hl hh hs)
theorem x_icmp_le (E : EV p m c cc nL s args own y ret meth D cs ad) {x y2 : Int32} {ρ : Type} {A B r : ρ} {off : Int} {tgt : Nat} (d : decode cc pc = .ok (.if_icmp .le off, 3)) (ht : (pc : Int) + off = (tgt : Int)) (hm : (if x ≤ y2 then A else B) = r) (kt : x ≤ y2 → A = r → XV p l e R s m args below meth c nL D cs ad Q tgt lv st w) (kf : ¬ (x ≤ y2) → B = r → XV p l e R s m args below meth c nL D cs ad Q (pc + 3) lv st w) : XV p l e R s m args below meth c nL D cs ad Q pc lv (.int y2 :: .int x :: st) w := fun ls H locs hl hh hs => lv_icmp_le E.1.1 E.1.2.1 d ht (fun h => kt h ((if_pos h).symm.trans hm) ls H locs hl hh hs) (fun h => kf h ((if_neg h).symm.trans hm) ls H locs hl hh hs)
theorem x_hts (E : EV p m c cc nL s args own y ret meth D cs ad) : ∀ w ∈ wsG, w.before args s = true := fun w h => E.1.2.2.2.2 w (List.mem_cons_of_mem _ h)
theorem x_gf (E : EV p m c cc nL s args own y ret meth D cs ad) {idx ci k0 : Nat} {ty : FieldType} {fin : Bool} (fr : FR own idx ci k0 ty fin) {g : Nat} (hkl : kl g = ci) {v : Value} (hv : fval ad w g k0 (fk ci k0) = v) (d : decode cc pc = .ok (.getfield idx, 3)) (k : XV p l e R s m args below meth c nL D cs ad Q (pc + 3) lv (v :: st) w) : XV p l e R s m args below meth c nL D cs ad Q pc lv (.ref (ad g 0) :: st) w := by
  intro ls H locs hl hh hs
  obtain ⟨N0, T, N, ty0, hc, hk, hlink, hin, -⟩ := fr
  have h7 : kl g < 7 := by rw [hkl]; exact vwCl_lt hc
  obtain ⟨r, h1, cell, q1, q2, q3, q4⟩ := hh.1 g h7
  rw [hkl] at h1 q2 q4
  have hr : r = (N0, T, N) := Option.some.inj (h1.symm.trans hc)
  subst hr
  obtain ⟨hS, hfc, kC, hkC, -⟩ := E.2.1.1 ci _ hc
  obtain ⟨cf, kf, fi, f, hi, hsl⟩ := hS k0 hk
  refine W.getf E.1.1 E.1.2.1 E.1.2.2.2.1 (x_hts E _ hlink) hi (u_facts hfc hkC (u_lays (x_hts E) hin hk) hi).1 q1 (by rw [q3]; exact fun h => by cases h) (v := v) ?_ rfl rfl d (k ls H locs hl hh hs)
  rw [hsl, q4 k0 hk, ← hv]
  unfold fv
  rw [hkl]
/-- a nest mate's field: a Reading's Code, read by Outlook -/
theorem x_gfN (E : EV p m c cc nL s args own y ret meth D cs ad) (hown0 : own = RX3) {g : Nat} (hkl : kl g = 4) (d : decode cc pc = .ok (.getfield 29, 3)) (k : XV p l e R s m args below meth c nL D cs ad Q (pc + 3) lv (.ref (ad (g - 4) 0) :: st) w) : XV p l e R s m args below meth c nL D cs ad Q pc lv (.ref (ad g 0) :: st) w := by
  intro ls H locs hl hh hs
  subst hown0
  have hc : vwCl[4]? = some (RX5, TX5, 7) := rfl
  have h7 : kl g < 7 := by rw [hkl]; decide
  obtain ⟨r, h1, cell, q1, q2, q3, q4⟩ := hh.1 g h7
  rw [hkl] at h1 q2 q4
  have hr : r = (RX5, TX5, 7) := Option.some.inj (h1.symm.trans hc)
  subst hr
  obtain ⟨hS, hfc, kC, hkC, -⟩ := E.2.1.1 4 _ hc
  obtain ⟨cf, kf, fi, f, hi, hsl⟩ := hS 0 (by decide)
  refine va_Wgetf E.1.1 E.1.2.1 E.1.2.2.2.1 (va_Nw.use rfl E.2.1.2.2.1.2) hi (u_facts hfc hkC (u_lays (x_hts E) wG_X5 (by decide)) hi).1 q1 (by rw [q3]; exact fun h => by cases h) (v := .ref (ad (g - 4) 0)) ?_ rfl rfl d (k ls H locs hl hh hs)
  rw [hsl, q4 0 (by decide)]
  unfold fv
  rw [hkl]
  rfl
theorem x_pf (E : EV p m c cc nL s args own y ret meth D cs ad) {idx ci k0 : Nat} {ty : FieldType} (fr : FR own idx ci k0 ty false) {g : Nat} (hkl : kl g = ci) (hf : fk ci k0 ≤ 1) {v : Int32} (hn : narrow ty (.int v) = .int v) (hfit : fits ty (.int v) = true) (d : decode cc pc = .ok (.putfield idx, 3)) (k : XV p l e R s m args below meth c nL D cs ad Q (pc + 3) lv st (wr w g 0 k0 v)) : XV p l e R s m args below meth c nL D cs ad Q pc lv (.int v :: .ref (ad g 0) :: st) w := by
  intro ls H locs hl hh hs
  obtain ⟨N0, T, N, ty0, hc, hk, hlink, hin, hty, hnm, hte, hfin⟩ := fr
  have h7 : kl g < 7 := by rw [hkl]; exact vwCl_lt hc
  obtain ⟨r, h1, cell, q1, q2, q3, q4⟩ := hh.1 g h7
  have h10 := h1
  rw [hkl] at h1 q2 q4
  have hr : r = (N0, T, N) := Option.some.inj (h1.symm.trans hc)
  subst hr
  have hap : ∀ x y, x < N → y < N → x ≠ y → (D.2 ci) x ≠ (D.2 ci) y := by
    intro x y hx hy hne
    obtain ⟨hS, -⟩ := E.2.1.1 ci _ hc
    obtain ⟨_, _, _, fa, hia, ea⟩ := hS x hx
    obtain ⟨_, _, _, fb, hib, eb⟩ := hS y hy
    rw [← ea, ← eb]
    refine u_apart (u_lays (x_hts E) hin hx) (u_lays (x_hts E) hin hy) hia hib ?_
    rw [(State.fieldFound?_type hia (hty x hx)).1, (State.fieldFound?_type hib (hty y hy)).1]
    exact hnm x hx y hy hne
  obtain ⟨hS, hfc, kC, hkC, hkind⟩ := E.2.1.1 ci _ hc
  obtain ⟨cf, kf, fi, f, hi, hsl⟩ := hS k0 hk
  have hlay := x_hts E _ (hin _ (u_in_lay hk))
  unfold u_lay at hlay
  rw [if_neg (by rw [hfin]; decide)] at hlay
  have hst := (u_facts hfc hkC (u_lays (x_hts E) hin hk) hi).1
  have h6 := u_store hfc hkC hkind hlay hi (by rw [hty k0 hk, hte]) hn hfit
  refine W.putK E.1.1 E.1.2.1 (f := f) ⟨E.1.2.2.2.1, x_hts E _ hlink, ⟨_, _, _, hi⟩, hst⟩ (by rw [q2]; exact h6) q1 q3 (by rw [hsl]; exact k2_hasslot (q4 k0 hk)) rfl rfl d fun H' e1 e2 e3 => ?_
  rw [hsl] at e1 ⊢
  refine k ls H' _ hl (hh.obj E.2.1 h7 e3 h10 ?_ ?_ ?_) (hs.put e2 e3 ⟨g, 0, Or.inl ⟨rfl, h7⟩, rfl⟩)
  · rw [hkl]
    refine t_OB.to (V := updV (fv ad w g) k0 (.int v)) ⟨_, e1, q2, q3, t_set q4 hap hk (.int v)⟩ (fun j _ => ?_)
    unfold updV
    by_cases hj : j = k0
    · subst hj
      rw [if_pos rfl]
      unfold fv fval
      rw [hkl, if_pos hf, rd_eq]
    · rw [if_neg hj]
      exact (fv_same (rd_ne (fun z => hj z.2.2)) rfl).symm
  · intro g' o' j hne
    exact rd_ne (fun z => hne ⟨z.1, z.2.1⟩)
  · intro g' hg' k1
    exact fv_same (rd_ne (fun z => hg' z.1)) rfl
theorem x_pl (E : EV p m c cc nL s args own y ret meth D cs ad) (hown0 : own = RX7) {idx : Nat} (fr : FR own idx 6 34 .long false) {v : Int64} (d : decode cc pc = .ok (.putfield idx, 3)) (k : XV p l e R s m args below meth c nL D cs ad Q (pc + 3) lv st (wrl w v)) : XV p l e R s m args below meth c nL D cs ad Q pc lv (.long v :: .ref (ad 12 0) :: st) w := by
  intro ls H locs hl hh hs
  obtain ⟨N0, T, N, ty0, hc, hk, hlink, hin, hty, hnm, hte, hfin⟩ := fr
  have hkl : kl 12 = 6 := rfl
  have h7 : kl 12 < 7 := by decide
  obtain ⟨r, h1, cell, q1, q2, q3, q4⟩ := hh.1 12 h7
  have h10 := h1
  rw [hkl] at h1 q2 q4
  have hr : r = (N0, T, N) := Option.some.inj (h1.symm.trans hc)
  subst hr
  have hap : ∀ x y, x < N → y < N → x ≠ y → (D.2 6) x ≠ (D.2 6) y := by
    intro x y hx hy hne
    obtain ⟨hS, -⟩ := E.2.1.1 6 _ hc
    obtain ⟨_, _, _, fa, hia, ea⟩ := hS x hx
    obtain ⟨_, _, _, fb, hib, eb⟩ := hS y hy
    rw [← ea, ← eb]
    refine u_apart (u_lays (x_hts E) hin hx) (u_lays (x_hts E) hin hy) hia hib ?_
    rw [(State.fieldFound?_type hia (hty x hx)).1, (State.fieldFound?_type hib (hty y hy)).1]
    exact hnm x hx y hy hne
  obtain ⟨hS, hfc, kC, hkC, hkind⟩ := E.2.1.1 6 _ hc
  obtain ⟨cf, kf, fi, f, hi, hsl⟩ := hS 34 hk
  have hlay := x_hts E _ (hin _ (u_in_lay hk))
  unfold u_lay at hlay
  rw [if_neg (by rw [hfin]; decide)] at hlay
  have hst := (u_facts hfc hkC (u_lays (x_hts E) hin hk) hi).1
  have h6 := u_store hfc hkC hkind hlay hi (by rw [hty 34 hk, hte]) (ty := .long) (v := .long v) rfl rfl
  refine W.putK E.1.1 E.1.2.1 (f := f) ⟨E.1.2.2.2.1, x_hts E _ hlink, ⟨_, _, _, hi⟩, hst⟩ (by rw [q2]; exact h6) q1 q3 (by rw [hsl]; exact k2_hasslot (q4 34 hk)) rfl rfl d fun H' e1 e2 e3 => ?_
  rw [hsl] at e1 ⊢
  refine k ls H' _ hl (hh.obj E.2.1 h7 e3 h10 ?_ ?_ ?_) (hs.put e2 e3 ⟨12, 0, Or.inl ⟨rfl, h7⟩, rfl⟩)
  · rw [hkl]
    refine t_OB.to (V := updV (fv ad w 12) 34 (.long v)) ⟨_, e1, q2, q3, t_set q4 hap hk (.long v)⟩ (fun j _ => ?_)
    unfold updV
    by_cases hj : j = 34
    · subst hj
      rw [if_pos rfl]
      rfl
    · rw [if_neg hj]
      unfold fv fval
      have hne : ¬ fk (kl 12) j = 2 := fun h => hj (fk2 h).2
      rw [if_neg hne, if_neg hne]
      rfl
  · intro g' o' j _
    rfl
  · intro g' hg' k1
    unfold fv fval
    have hne : ¬ fk (kl g') k1 = 2 := fun h => hg' (kl6 (fk2 h).1)
    rw [if_neg hne, if_neg hne]
    rfl
theorem x_iald (E : EV p m c cc nL s args own y ret meth D cs ad) {ρ : Type} {r : ρ} {g o0 n ci : Nat} (hkl : kl g = ci) (hn : il ci o0 = n) (hp : 0 < n) {i : Int32} (d : decode cc pc = .ok (.iaload, 1)) {K : Int32 → Option ρ} (hm : ga w g o0 n i K = some r) (k : ∀ x, K x = some r → XV p l e R s m args below meth c nL D cs ad Q (pc + 1) lv (.int x :: st) w) : XV p l e R s m args below meth c nL D cs ad Q pc lv (.int i :: .ref (ad g o0) :: st) w := by
  intro ls H locs hl hh hs
  unfold ga at hm
  split at hm
  · rename_i hin
    subst hkl; subst hn
    have hlt : i.toNatClampNeg < il (kl g) o0 := Nat.not_le.mp fun q => hin (Or.inr q)
    exact W.iald (v := .int (rd w g o0 i.toNatClampNeg)) E.1.1 E.1.2.1 (hh.2.1 g o0 hp) (E.2.1.2.1.1 _ _) (fun q => by cases q) (by rw [arrV_size]; exact hin) (by rw [arrV_read _ _ hlt]) rfl rfl d (k _ hm ls H locs hl hh hs)
  · cases hm
theorem x_zald (E : EV p m c cc nL s args own y ret meth D cs ad) {ρ : Type} {r : ρ} {g o0 n ci : Nat} (hkl : kl g = ci) (hn : zl ci o0 = n) (hp : 0 < n) {i : Int32} (d : decode cc pc = .ok (.baload, 1)) {K : Int32 → Option ρ} (hm : ga w g o0 n i K = some r) (k : ∀ x, K x = some r → XV p l e R s m args below meth c nL D cs ad Q (pc + 1) lv (.int x :: st) w) : XV p l e R s m args below meth c nL D cs ad Q pc lv (.int i :: .ref (ad g o0) :: st) w := by
  intro ls H locs hl hh hs
  unfold ga at hm
  split at hm
  · rename_i hin
    subst hkl; subst hn
    have hlt : i.toNatClampNeg < zl (kl g) o0 := Nat.not_le.mp fun q => hin (Or.inr q)
    exact W.zald (v := .int (rd w g o0 i.toNatClampNeg)) E.1.1 E.1.2.1 (hh.2.2.1 g o0 hp) (E.2.1.2.1.2.1 _ _) (fun q => by cases q) (by rw [arrV_size]; exact hin) (by rw [arrV_read _ _ hlt]) rfl rfl d (k _ hm ls H locs hl hh hs)
  · cases hm
theorem arr_wr {cA : ClassId} {n : Nat} {w : Wd} {g o i : Nat} {v : Int32} : (arrV cA n (fun j => .int (rd w g o j))).setSlot i (.int v) = arrV cA n (fun j => .int (rd (wr w g o i v) g o j)) := by
  rw [arrV_store]
  congr 1
  funext q
  by_cases hq : q = i
  · subst hq; simp [updV, rd_eq]
  · simp [updV, hq, rd_ne (w := w) (g := g) (o := o) (j := i) (g' := g) (o' := o) (j' := q) (v := v) (fun z => hq z.2.2)]
theorem x_iast (E : EV p m c cc nL s args own y ret meth D cs ad) {ρ : Type} {r : ρ} {g o0 n ci : Nat} (hkl : kl g = ci) (hn : il ci o0 = n) (hp : 0 < n) {i v : Int32} (d : decode cc pc = .ok (.iastore, 1)) {K : Wd → Option ρ} (hm : pa w g o0 n i v K = some r) (k : ∀ w', K w' = some r → XV p l e R s m args below meth c nL D cs ad Q (pc + 1) lv st w') : XV p l e R s m args below meth c nL D cs ad Q pc lv (.int v :: .int i :: .ref (ad g o0) :: st) w := by
  intro ls H locs hl hh hs
  unfold pa at hm
  split at hm
  · rename_i hin
    subst hkl; subst hn
    refine W.iast E.1.1 E.1.2.1 (hh.2.1 g o0 hp) (E.2.1.2.1.1 _ _) (fun q => by cases q) (by rw [arrV_size]; exact hin) rfl rfl d fun H1 e1 z oq => ?_
    refine k _ hm ls H1 _ hl (hh.arr E.2.1 hp oq (by rw [e1, arr_wr]) (fun g' o' j hne => rd_ne (fun z => hne ⟨z.1, z.2.1⟩)) rfl) (hs.put z oq ⟨g, o0, Or.inr (Or.inl hp), rfl⟩)
  · cases hm
def nz (x : Int32) : Int32 := vp_nar .boolean x
theorem nz_nar (x : Int32) : narrow .boolean (.int x) = .int (nz x) := rfl
theorem x_zast (E : EV p m c cc nL s args own y ret meth D cs ad) {ρ : Type} {r : ρ} {g o0 n ci : Nat} (hkl : kl g = ci) (hn : zl ci o0 = n) (hp : 0 < n) {i v : Int32} (d : decode cc pc = .ok (.bastore, 1)) {K : Wd → Option ρ} (hm : pa w g o0 n i (nz v) K = some r) (k : ∀ w', K w' = some r → XV p l e R s m args below meth c nL D cs ad Q (pc + 1) lv st w') : XV p l e R s m args below meth c nL D cs ad Q pc lv (.int v :: .int i :: .ref (ad g o0) :: st) w := by
  intro ls H locs hl hh hs
  unfold pa at hm
  split at hm
  · rename_i hin
    subst hkl; subst hn
    refine W.zast E.1.1 E.1.2.1 (hh.2.2.1 g o0 hp) (E.2.1.2.1.2.1 _ _) (fun q => by cases q) (by rw [arrV_size]; exact hin) rfl rfl d fun H1 e1 z oq => ?_
    refine k _ hm ls H1 _ hl (hh.arrZ E.2.1 hp oq (by rw [e1]; exact congrArg some arr_wr) (fun g' o' j hne => rd_ne (fun z => hne ⟨z.1, z.2.1⟩)) rfl) (hs.put z oq ⟨g, o0, Or.inr (Or.inr (Or.inl hp)), rfl⟩)
  · cases hm
theorem x_aaldC (E : EV p m c cc nL s args own y ret meth D cs ad) {ρ : Type} {r : ρ} {i : Int32} (d : decode cc pc = .ok (.aaload, 1)) {K : Nat → Option ρ} (hm : ix 4 i K = some r) (k : ∀ n, kl (n + 1) = 0 → K n = some r → XV p l e R s m args below meth c nL D cs ad Q (pc + 1) lv (.ref (ad (n + 1) 0) :: st) w) : XV p l e R s m args below meth c nL D cs ad Q pc lv (.int i :: .ref (ad 0 3) :: st) w := by
  intro ls H locs hl hh hs
  unfold ix at hm
  split at hm
  · rename_i hin
    have hlt : i.toNatClampNeg < 4 := Nat.not_le.mp fun q => hin (Or.inr q)
    exact W.aald (v := .ref (ad (i.toNatClampNeg + 1) 0)) (ty := .object RX0) E.1.1 E.1.2.1 hh.2.2.2.1 (E.2.1.2.1.2.2.1 _ _) rfl (fun q => by cases q) (by rw [arrV_size]; exact hin) (by rw [arrV_read _ _ hlt]) rfl rfl d (k _ (by unfold kl; rw [if_neg (by omega), if_pos (by omega)]) hm ls H locs hl hh hs)
  · cases hm
theorem x_aaldR (E : EV p m c cc nL s args own y ret meth D cs ad) {ρ : Type} {r : ρ} {i : Int32} (d : decode cc pc = .ok (.aaload, 1)) {K : Nat → Option ρ} (hm : ix 4 i K = some r) (k : ∀ n, kl (n + 5) = 4 → K n = some r → XV p l e R s m args below meth c nL D cs ad Q (pc + 1) lv (.ref (ad (n + 5) 0) :: st) w) : XV p l e R s m args below meth c nL D cs ad Q pc lv (.int i :: .ref (ad 0 4) :: st) w := by
  intro ls H locs hl hh hs
  unfold ix at hm
  split at hm
  · rename_i hin
    have hlt : i.toNatClampNeg < 4 := Nat.not_le.mp fun q => hin (Or.inr q)
    exact W.aald (v := .ref (ad (i.toNatClampNeg + 5) 0)) (ty := .object RX5) E.1.1 E.1.2.1 hh.2.2.2.2 (E.2.1.2.1.2.2.2 _ _) rfl (fun q => by cases q) (by rw [arrV_size]; exact hin) (by rw [arrV_read _ _ hlt]) rfl rfl d (k _ (by unfold kl; rw [if_neg (by omega), if_neg (by omega), if_pos (by omega)]) hm ls H locs hl hh hs)
  · cases hm
theorem x_alen (E : EV p m c cc nL s args own y ret meth D cs ad) {g o0 n ci : Nat} (hkl : kl g = ci) (hn : il ci o0 = n) (hp : 0 < n) {v : Int32} (hv : Int32.ofNat n = v) (d : decode cc pc = .ok (.arraylength, 1)) (k : XV p l e R s m args below meth c nL D cs ad Q (pc + 1) lv (.int v :: st) w) : XV p l e R s m args below meth c nL D cs ad Q pc lv (.ref (ad g o0) :: st) w := by
  intro ls H locs hl hh hs
  subst hkl; subst hn; subst hv
  exact W.alen E.1.1 E.1.2.1 (hh.2.1 g o0 hp) (E.2.1.2.1.1 _ _) (by rw [arrV_size]) rfl rfl d (k ls H locs hl hh hs)
theorem x_alenC (E : EV p m c cc nL s args own y ret meth D cs ad) {v : Int32} (hv : Int32.ofNat 4 = v) (d : decode cc pc = .ok (.arraylength, 1)) (k : XV p l e R s m args below meth c nL D cs ad Q (pc + 1) lv (.int v :: st) w) : XV p l e R s m args below meth c nL D cs ad Q pc lv (.ref (ad 0 3) :: st) w := by
  intro ls H locs hl hh hs
  subst hv
  exact W.alen E.1.1 E.1.2.1 hh.2.2.2.1 (E.2.1.2.1.2.2.1 _ _) (by rw [arrV_size]) rfl rfl d (k ls H locs hl hh hs)
theorem x_back {ls : Array Slot} {H : Heap} {locs : List Loc} {rest st0 : List Value} {rv : Option Value} {w' : Wd} {a : Array Value} (hl : lv_has ls nL lv) (hs : va_S (xF ad) s.heap H locs)
    (hr : va_Run p l e R s m args below meth c H locs 0 0 0 0 (F0 m pc ls st0) rest (xQ D cs ad rv w' a) (xF ad)) (k : XV p l e R s m args below meth c nL D cs ad Q (pc + 3) lv (rv.toList ++ rest) w') : W p l e R s m args below meth c H locs 0 0 Q (F0 m pc ls st0) := by
  intro T hT X
  obtain ⟨v, st₀, t, T', L, h0, X', hL, e1, e2, ⟨⟨hv, hb⟩, hz, hk⟩, st⟩ := hr T hT X
  cases hv
  rw [h0] at hz hk
  obtain ⟨t2, a1, b1⟩ := k ls T'.heap (locs ++ L) hl (by rw [e1]; exact hb)
    ⟨Nat.le_trans hs.1 (by rw [e1]; exact hz), fun q h1 h2 => by rw [e1, hk q (Nat.lt_of_lt_of_le h1 hs.1) h2]; exact hs.2.1 q h1 h2, fun q hq => by
      rcases List.mem_append.mp hq with h | h
      · exact hs.2.2 q h
      · exact hL q h⟩ T' rfl X'
  exact ⟨t2, st t2 a1, b1⟩
theorem x_callV (E : EV p m c cc nL s args own y ret meth D cs ad) {y2 : MethodName} {cc2 : ByteArray} {nL2 n idx fr lo ci : Nat} {ret2 : Option FieldType} (my : MYV y2 cc2 nL2 ret2 n) (lk : Cond.methodLink own idx y2 ∈ wsG) {g : Nat} {As rest : List Value} {rv : Option Value} {w' : Wd} (hM : Mc l y2 cc2 nL2 ret2 fr lo D cs ad (.ref (ad g 0) :: As) w rv w') (hkl : kl g = ci) (hC : (vwCl[ci]?).map (fun q => q.1) = some y2.cls) (hn : As.length = n)
    (hR : fr + 1 ≤ R.frames ∧ 8 + (nL2 + 11) + lo ≤ R.locals) (hc : (rest.map fun v => v.category).sum ≤ 8) (d : decode cc pc = .ok (.invokevirtual idx, 3)) (k : XV p l e R s m args below meth c nL D cs ad Q (pc + 3) lv (rv.toList ++ rest) w') : XV p l e R s m args below meth c nL D cs ad Q pc lv (As.reverse ++ .ref (ad g 0) :: rest) w := by
  intro ls H locs hl hh hs
  obtain ⟨i1, i2, i3, i4, i5, i6, i7⟩ := my
  have hrecv : ∃ cellB : Cell, H[ad g 0]? = some cellB ∧ cellB.vm.isStatics = false ∧ s.vm.findClass y2.cls = some cellB.cls := by
    cases hq : vwCl[ci]? with
    | none => rw [hq] at hC; cases hC
    | some q =>
      rw [hq] at hC
      have h7 : kl g < 7 := by rw [hkl]; exact vwCl_lt hq
      obtain ⟨r, h1, cell, q1, q2, q3, q4⟩ := hh.1 g h7
      rw [hkl] at h1 q2
      have hr : r = q := Option.some.inj (h1.symm.trans hq)
      have hn : q.1 = y2.cls := Option.some.inj hC
      refine ⟨cell, q1, by rw [q3]; rfl, ?_⟩
      rw [q2, ← hn]
      exact (E.2.1.1 ci q hq).2.1
  refine x_back hl hs (va_runV (As := As) (rest := rest) (C := y2.cls) (n := n) (bytes := cc2) (maxL := nL2) (ret := ret2) E.1 hM ⟨callB_of n E.1.2.2.2.2 (gw_in i4) rfl rfl rfl (x_hts E _ i3) (x_hts E _ lk) ⟨i5, i6, i7⟩ hR, x_hts E _ i1, x_hts E _ i2⟩ ⟨xP_blind, hrecv, fun U hU hW => ⟨rfl, WK.moved hW E.2.1, by rw [hU]; exact hh⟩⟩ rfl hn hl.1 rfl (lv_room hc) d ⟨Nat.zero_le _, Nat.zero_le _⟩) k
theorem x_callS (E : EV p m c cc nL s args own y ret meth D cs ad) {y2 : MethodName} {cc2 : ByteArray} {nL2 n idx fr lo : Nat} {ret2 : Option FieldType} (my : MYS y2 cc2 nL2 ret2 n) (lk : Cond.methodLink own idx y2 ∈ wsG) {As rest : List Value} {rv : Option Value} {w' : Wd} (hM : Mc l y2 cc2 nL2 ret2 fr lo D cs ad As w rv w') (hn : As.length = n)
    (hR : fr + 1 ≤ R.frames ∧ 8 + (nL2 + 11) + lo ≤ R.locals) (hc : (rest.map fun v => v.category).sum ≤ 8) (d : decode cc pc = .ok (.invokestatic idx, 3)) (k : XV p l e R s m args below meth c nL D cs ad Q (pc + 3) lv (rv.toList ++ rest) w') : XV p l e R s m args below meth c nL D cs ad Q pc lv (As.reverse ++ rest) w := by
  intro ls H locs hl hh hs
  obtain ⟨i1, i3, i4, i5, i6, i7⟩ := my
  refine x_back hl hs (va_runS (As := As) (rest := rest) (n := n) (bytes := cc2) (maxL := nL2) (ret := ret2) E.1 hM ⟨callB_of n E.1.2.2.2.2 (gw_in i4) rfl rfl rfl (x_hts E _ i3) (x_hts E _ lk) ⟨i5, i6, i7⟩ hR, x_hts E _ i1⟩ ⟨xP_blind, fun U hU hW => ⟨rfl, WK.moved hW E.2.1, by rw [hU]; exact hh⟩⟩ rfl hn hl.1 rfl (lv_room hc) d ⟨Nat.zero_le _, Nat.zero_le _⟩) k
theorem x_callSN (E : EV p m c cc nL s args own y ret meth D cs ad) {y2 : MethodName} {cc2 : ByteArray} {nL2 n idx fr lo : Nat} {ret2 : Option FieldType} {host : String} (my : MYS y2 cc2 nL2 ret2 n) (lk : va_Nw (.methodLinkNest own idx y2 host) s) {As rest : List Value} {rv : Option Value} {w' : Wd} (hM : Mc l y2 cc2 nL2 ret2 fr lo D cs ad As w rv w') (hn : As.length = n)
    (hR : fr + 1 ≤ R.frames ∧ 8 + (nL2 + 11) + lo ≤ R.locals) (hc : (rest.map fun v => v.category).sum ≤ 8) (d : decode cc pc = .ok (.invokestatic idx, 3)) (k : XV p l e R s m args below meth c nL D cs ad Q (pc + 3) lv (rv.toList ++ rest) w') : XV p l e R s m args below meth c nL D cs ad Q pc lv (As.reverse ++ rest) w := by
  intro ls H locs hl hh hs
  obtain ⟨i1, i3, i4, i5, i6, i7⟩ := my
  refine x_back hl hs (va_runSN (As := As) (rest := rest) (n := n) (bytes := cc2) (maxL := nL2) (ret := ret2) (host := host) E.1 hM ⟨va_cnB n E.1.2.2.2.2 (gw_in i4) rfl rfl rfl lk (x_hts E _ i3) ⟨i5, i6, i7⟩ hR, x_hts E _ i1, trivial⟩ ⟨xP_blind, fun U hU hW => ⟨rfl, WK.moved hW E.2.1, by rw [hU]; exact hh⟩⟩ rfl hn hl.1 rfl (lv_room hc) d ⟨Nat.zero_le _, Nat.zero_le _⟩) k
theorem x_mmax (E : EV p m c cc nL s args own y ret meth D cs ad) {idx : Nat} (l1 : Cond.methodLink own idx Lib.Math.max.name ∈ wsG) (l2 : Cond.static Lib.Math.max.name ∈ wsG) (l3 : Cond.initialized "java/lang/Math" ∈ wsG) (l4 : Cond.code Lib.Math.max.name Lib.Math.max.code 2 (some .int) ∈ wsG) (hf : 1 ≤ R.frames) (ho : (st.map fun v => v.category).sum + 13 ≤ R.locals) {x y2 : Int32} (d : decode cc pc = .ok (.invokestatic idx, 3)) (k : XV p l e R s m args below meth c nL D cs ad Q (pc + 3) lv (.int (imax x y2) :: st) w) : XV p l e R s m args below meth c nL D cs ad Q pc lv (.int y2 :: .int x :: st) w := fun ls H locs hl hh hs => va_mmax E.1.1 E.1.2.1 (E.1.2.2.1.trans hl.1.symm) E.1.2.2.2.1 (x_hts E _ l1) (x_hts E _ l2) (x_hts E _ l3) (x_hts E _ l4) hf ho (Nat.zero_le _) (Nat.zero_le _) d (k ls H locs hl hh hs)
theorem x_mmin (E : EV p m c cc nL s args own y ret meth D cs ad) {idx : Nat} (l1 : Cond.methodLink own idx Lib.Math.min.name ∈ wsG) (l2 : Cond.static Lib.Math.min.name ∈ wsG) (l3 : Cond.initialized "java/lang/Math" ∈ wsG) (l4 : Cond.code Lib.Math.min.name Lib.Math.min.code 2 (some .int) ∈ wsG) (hf : 1 ≤ R.frames) (ho : (st.map fun v => v.category).sum + 13 ≤ R.locals) {x y2 : Int32} (d : decode cc pc = .ok (.invokestatic idx, 3)) (k : XV p l e R s m args below meth c nL D cs ad Q (pc + 3) lv (.int (imin x y2) :: st) w) : XV p l e R s m args below meth c nL D cs ad Q pc lv (.int y2 :: .int x :: st) w := fun ls H locs hl hh hs => va_mmin E.1.1 E.1.2.1 (E.1.2.2.1.trans hl.1.symm) E.1.2.2.2.1 (x_hts E _ l1) (x_hts E _ l2) (x_hts E _ l3) (x_hts E _ l4) hf ho (Nat.zero_le _) (Nat.zero_le _) d (k ls H locs hl hh hs)
theorem x_weak {lv' : List (Nat × Value)} (ks : List Nat) (h : lv_pick lv ks = lv') (k : XV p l e R s m args below meth c nL D cs ad Q pc lv' st w) : XV p l e R s m args below meth c nL D cs ad Q pc lv st w := fun ls H locs hl hh hs => k ls H locs (lv_sub hl ks h) hh hs
end ROWS
section RETS
variable {p : Program} {l : Launch} {e : Env} {R : Room} {s : State} {m : MethodId} {args : Array Value} {below : List Frame} {meth : Method} {c : Code} {cc : ByteArray} {nL : Nat} {own : String} {y : MethodName} {D : va_G} {cs : vCs} {ad : Nat → Nat → Nat}
variable {pc : Nat} {lv : List (Nat × Value)} {w : Wd}
theorem x_iret (E : EV p m c cc nL s args own y (some .int) meth D cs ad) {x : Int32} (d : decode cc pc = .ok (.ireturn, 1)) : XV p l e R s m args below meth c nL D cs ad (MQ below (xQ D cs ad (some (.int x)) w) args s 0 0 (xF ad)) pc lv [.int x] w := fun ls H locs hl hh hs => W.iret E.1.1 E.1.2.1 E.2.2.1 (fun t ht hW => ⟨⟨rfl, by rw [ht]; exact hh⟩, hs.F ht⟩) hs.2.2 d E.2.2.2
theorem x_zret (E : EV p m c cc nL s args own y (some .boolean) meth D cs ad) {x : Int32} (hx : narrow .boolean (.int x) = .int x) (d : decode cc pc = .ok (.ireturn, 1)) : XV p l e R s m args below meth c nL D cs ad (MQ below (xQ D cs ad (some (.int x)) w) args s 0 0 (xF ad)) pc lv [.int x] w := fun ls H locs hl hh hs => W.zret E.1.1 E.1.2.1 E.2.2.1 hx (fun t ht hW => ⟨⟨rfl, by rw [ht]; exact hh⟩, hs.F ht⟩) hs.2.2 d E.2.2.2
theorem x_lret (E : EV p m c cc nL s args own y (some .long) meth D cs ad) {x : Int64} (d : decode cc pc = .ok (.lreturn, 1)) : XV p l e R s m args below meth c nL D cs ad (MQ below (xQ D cs ad (some (.long x)) w) args s 0 0 (xF ad)) pc lv [.long x] w := fun ls H locs hl hh hs => W.lret E.1.1 E.1.2.1 E.2.2.1 (fun t ht hW => ⟨⟨rfl, by rw [ht]; exact hh⟩, hs.F ht⟩) hs.2.2 d E.2.2.2
theorem x_vret (E : EV p m c cc nL s args own y none meth D cs ad) (d : decode cc pc = .ok (.return_, 1)) : XV p l e R s m args below meth c nL D cs ad (MQ below (xQ D cs ad none w) args s 0 0 (xF ad)) pc lv [] w := fun ls H locs hl hh hs => W.vret E.1.1 E.1.2.1 E.2.2.1 (fun t ht hW => ⟨⟨rfl, by rw [ht]; exact hh⟩, hs.F ht⟩) hs.2.2 d E.2.2.2
end RETS

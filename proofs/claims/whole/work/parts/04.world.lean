/-! The world: every cell that the class and the reference hold, by group and place; its numbers are a function. -/
/-- an Int32 by its number -/
def iI (z : Int) : Int32 := Int32.ofInt z
/-- the class (its number in vwCl) of the object at the head of group g; 7: none. Groups: 0 CodeJudge, 1 to 4 Code, 5 to 8 Reading, 9 Outlook, 10 Parting, 11 Division, 12 CodeJudgeModel -/
def kl (g : Nat) : Nat := if g = 0 then 5 else if g ≤ 4 then 0 else if g ≤ 8 then 4 else if g = 9 then 2 else if g = 10 then 3 else if g = 11 then 1 else if g = 12 then 6 else 7
/-- the length of the int array at place o of a group of class c; 0: there is none -/
def il (c o : Nat) : Nat := match c, o with
  | 0, 1 => 22 | 0, 2 => 40 | 0, 3 => 120 | 0, 4 => 120 | 0, 5 => 5 | 0, 6 => 5
  | 1, 1 => 41 | 1, 2 => 41 | 1, 3 => 41 | 1, 4 => 41 | 1, 5 => 41
  | 2, 1 => 225 | 2, 2 => 225
  | 3, 1 => 30 | 3, 2 => 30 | 3, 3 => 30 | 3, 4 => 30
  | 4, 1 => 41 | 4, 2 => 41 | 4, 3 => 4
  | 5, 1 => 40 | 5, 2 => 40
  | 6, 1 => 4 | 6, 2 => 4 | 6, 3 => 64 | 6, 4 => 16 | 6, 5 => 40 | 6, 6 => 40 | 6, 7 => 4 | 6, 8 => 225 | 6, 9 => 225
  | 6, 13 => 5 | 6, 14 => 5 | 6, 15 => 31 | 6, 16 => 41 | 6, 17 => 41 | 6, 18 => 41 | 6, 19 => 41 | 6, 20 => 41
  | _, _ => 0
/-- the length of the boolean array there -/
def zl (c o : Nat) : Nat := match c, o with
  | 6, 10 => 41 | 6, 11 => 5 | 6, 12 => 5
  | _, _ => 0
/-- what a field is: 0 an int, 1 a boolean, 2 the long, 10 + o the group's own array at place o, 101 a Reading's Code, 100 + g the head of group g -/
def fk (c k : Nat) : Nat := match c, k with
  | 0, 0 => 11 | 0, 1 => 0 | 0, 2 => 0 | 0, 3 => 0 | 0, 4 => 0 | 0, 5 => 12 | 0, 6 => 13 | 0, 7 => 14 | 0, 8 => 15 | 0, 9 => 16
  | 1, 0 => 11 | 1, 1 => 12 | 1, 2 => 13 | 1, 3 => 14 | 1, 4 => 15
  | 2, 0 => 11 | 2, 1 => 12
  | 3, 0 => 11 | 3, 1 => 12 | 3, 2 => 13 | 3, 3 => 14 | 3, 4 => 0 | 3, 5 => 0
  | 4, 0 => 101 | 4, 1 => 11 | 4, 2 => 12 | 4, 3 => 13 | 4, 4 => 0 | 4, 5 => 0 | 4, 6 => 1
  | 5, 0 => 11 | 5, 1 => 0 | 5, 2 => 12 | 5, 3 => 0 | 5, 4 => 0 | 5, 5 => 13 | 5, 6 => 14 | 5, 7 => 0 | 5, 8 => 0 | 5, 9 => 0 | 5, 10 => 109 | 5, 11 => 110 | 5, 12 => 111
  | 6, 0 => 0 | 6, 1 => 11 | 6, 2 => 12 | 6, 3 => 13 | 6, 4 => 14 | 6, 5 => 0 | 6, 6 => 0 | 6, 7 => 0 | 6, 8 => 0 | 6, 9 => 15 | 6, 10 => 0 | 6, 11 => 16
  | 6, 12 => 0 | 6, 13 => 0 | 6, 14 => 0 | 6, 15 => 0 | 6, 16 => 0 | 6, 17 => 0 | 6, 18 => 0 | 6, 19 => 17 | 6, 20 => 18 | 6, 21 => 19 | 6, 22 => 20 | 6, 23 => 21 | 6, 24 => 22
  | 6, 25 => 0 | 6, 26 => 23 | 6, 27 => 24 | 6, 28 => 25 | 6, 29 => 26 | 6, 30 => 27 | 6, 31 => 28 | 6, 32 => 29 | 6, 33 => 30 | 6, 34 => 2
  | _, _ => 99
/-- the numbers of all cells (group, place, slot; an object is at place 0), and the one long -/
abbrev Wd : Type := (Nat → Nat → Nat → Int32) × Int64
def rd (w : Wd) (g o j : Nat) : Int32 := w.1 g o j
def wr (w : Wd) (g o j : Nat) (v : Int32) : Wd := (fun a b i => if a = g ∧ b = o ∧ i = j then v else w.1 a b i, w.2)
def wrl (w : Wd) (v : Int64) : Wd := (w.1, v)
/-- Arrays.fill of n numbers; System.arraycopy of the first n -/
def wfill (w : Wd) (g o n : Nat) (v : Int32) : Wd := (fun a b i => if a = g ∧ b = o ∧ i < n then v else w.1 a b i, w.2)
def wcopy (w : Wd) (g o g' o' n : Nat) : Wd := (fun a b i => if a = g' ∧ b = o' ∧ i < n then w.1 g o i else w.1 a b i, w.2)
def fval (ad : Nat → Nat → Nat) (w : Wd) (g k f : Nat) : Value := if f ≤ 1 then .int (rd w g 0 k) else if f = 2 then .long w.2 else if f = 101 then .ref (ad (g - 4) 0) else if 109 ≤ f then .ref (ad (f - 100) 0) else .ref (ad g (f - 10))
def fv (ad : Nat → Nat → Nat) (w : Wd) (g k : Nat) : Value := fval ad w g k (fk (kl g) k)
abbrev vCs : Type := ClassId × ClassId × ClassId × ClassId
/-- the heap holds the numbers w -/
def WH (D : va_G) (cs : vCs) (ad : Nat → Nat → Nat) (w : Wd) (H : Heap) : Prop :=
  (∀ g, kl g < 7 → ∃ r, vwCl[kl g]? = some r ∧ t_OB (ad g 0) (D.1 (kl g)) r.2.2 (D.2 (kl g)) H (fv ad w g)) ∧
  (∀ g o, 0 < il (kl g) o → H[ad g o]? = some (arrV cs.1 (il (kl g) o) (fun j => .int (rd w g o j)))) ∧
  (∀ g o, 0 < zl (kl g) o → H[ad g o]? = some (arrV cs.2.1 (zl (kl g) o) (fun j => .int (rd w g o j)))) ∧
  H[ad 0 3]? = some (arrV cs.2.2.1 4 (fun j => .ref (ad (j + 1) 0))) ∧ H[ad 0 4]? = some (arrV cs.2.2.2 4 (fun j => .ref (ad (j + 5) 0)))
/-- there is a cell at this place -/
def xA (g o : Nat) : Prop := (o = 0 ∧ kl g < 7) ∨ 0 < il (kl g) o ∨ 0 < zl (kl g) o ∨ (g = 0 ∧ (o = 3 ∨ o = 4))
def xF (ad : Nat → Nat → Nat) : Nat → Prop := fun q => ∃ g o, xA g o ∧ q = ad g o
abbrev nw2 : Cond := .methodLinkNest RX5 73 yX6_isSortPair RX6
abbrev nw3 : Cond := .fieldLinkNest RX3 29 RX5 "code" "LCodeJudge$Code;" RX6
/-- what stays: classes, arrays' classes, links among nest mates, and that the cells are apart -/
def WK (D : va_G) (cs : vCs) (ad : Nat → Nat → Nat) (U : State) : Prop :=
  (∀ (c : Nat) (q : vw_C), vwCl[c]? = some q → u_Kn U q.1 q.2.1 q.2.2 (D.1 c) (D.2 c)) ∧
  (ArrOfT U cs.1 .int ∧ ArrOfT U cs.2.1 .boolean ∧ ArrOfT U cs.2.2.1 (.object RX0) ∧ ArrOfT U cs.2.2.2 (.object RX5)) ∧
  (va_Nw nw2 U ∧ va_Nw nw3 U) ∧
  ∀ g o g' o', xA g o → xA g' o' → ad g o = ad g' o' → g = g' ∧ o = o'
theorem WK.moved {D : va_G} {cs : vCs} {ad : Nat → Nat → Nat} {s U : State} (hW : s.WarmedH U.vm) (h : WK D cs ad s) : WK D cs ad U :=
  ⟨fun c q hq => u_Kn_moved hW.alike (h.1 c q hq), ⟨arrOfT_moved hW.alike h.2.1.1, arrOfT_moved hW.alike h.2.1.2.1, arrOfT_moved hW.alike h.2.1.2.2.1, arrOfT_moved hW.alike h.2.1.2.2.2⟩, ⟨va_Nw.warmM hW h.2.2.1.1, va_Nw.warmF hW h.2.2.1.2⟩, h.2.2.2⟩
theorem WK.same {D : va_G} {cs : vCs} {ad : Nat → Nat → Nat} {u U : State} (hv : u.vm = U.vm) (h : WK D cs ad u) : WK D cs ad U := by
  have ha : u.vm.Alike U.vm := by rw [hv]; exact Vm.Alike.refl _
  exact ⟨fun c q hq => u_Kn_moved ha (h.1 c q hq), ⟨arrOfT_moved ha h.2.1.1, arrOfT_moved ha h.2.1.2.1, arrOfT_moved ha h.2.1.2.2.1, arrOfT_moved ha h.2.1.2.2.2⟩, ⟨va_Nw.same rfl hv h.2.2.1.1, va_Nw.same rfl hv h.2.2.1.2⟩, h.2.2.2⟩
-- the words of all methods: one list
theorem gw_all {w : Cond} (h : w ∈ wsG) : goodWord w = true := (List.mem_filter.mp h).2
abbrev wsM (y : MethodName) (cc : ByteArray) (nL : Nat) (ret : Option FieldType) : List Cond := .code y cc nL ret :: wsG
theorem gw_in {y y' : MethodName} {cc cc' : ByteArray} {nL nL' : Nat} {ret ret' : Option FieldType} (h : Cond.code y' cc' nL' ret' ∈ wsG) : GoodIn (wsM y cc nL ret) (wsM y' cc' nL' ret') := by
  intro w hw
  have hm : w ∈ wsG := by
    rcases List.mem_cons.mp hw with e | e
    · rw [e]; exact h
    · exact e
  exact ⟨List.mem_cons_of_mem _ hm, good_of_word (gw_all hm)⟩
def xP (D : va_G) (cs : vCs) (ad : Nat → Nat → Nat) (w : Wd) : State → Prop := fun U => WK D cs ad U ∧ WH D cs ad w U.heap
def xQ (D : va_G) (cs : vCs) (ad : Nat → Nat → Nat) (rv : Option Value) (w' : Wd) : Array Value → State → Outcome → State → Prop := fun _ st oc t => (oc = .returned rv ∧ WH D cs ad w' t.heap) ∧ va_F (xF ad) st t
/-- a method's contract: from the numbers w it returns rv, the numbers are w' then, no cell is made, no other cell changes -/
def Mc (l : Launch) (y : MethodName) (cc : ByteArray) (nL : Nat) (ret : Option FieldType) (fr lo : Nat) (D : va_G) (cs : vCs) (ad : Nat → Nat → Nat) (av : List Value) (w : Wd) (rv : Option Value) (w' : Wd) : Prop :=
  Met l y (wsM y cc nL ret) { frames := fr, cells := 0, slots := 0, locals := lo } (va_Pc av (xP D cs ad w)) (xQ D cs ad rv w') 0 0 (xF ad)
theorem xP_blind {D : va_G} {cs : vCs} {ad : Nat → Nat → Nat} {w : Wd} {av : List Value} : FrameBlind (va_Pc av (xP D cs ad w)) := fun _ _ _ _ h => ⟨h.1, WK.same rfl h.2.1, h.2.2⟩
/-- the machine's fixed part in a method -/
abbrev EV (p : Program) (m : MethodId) (c : Code) (cc : ByteArray) (nL : Nat) (s : State) (args : Array Value) (own : String) (y : MethodName) (ret : Option FieldType) (meth : Method) (D : va_G) (cs : vCs) (ad : Nat → Nat → Nat) : Prop :=
  CallFix p m c cc nL s args (wsM y cc nL ret) own ∧ WK D cs ad s ∧ meth.sig.returnType = ret ∧ meth.locks = false
def XV (p : Program) (l : Launch) (e : Env) (R : Room) (s : State) (m : MethodId) (args : Array Value) (below : List Frame) (meth : Method) (c : Code) (nL : Nat) (D : va_G) (cs : vCs) (ad : Nat → Nat → Nat) (Q : State → Prop) (pc : Nat) (lv : List (Nat × Value)) (st : List Value) (w : Wd) : Prop :=
  ∀ ls H locs, lv_has ls nL lv → WH D cs ad w H → va_S (xF ad) s.heap H locs → W p l e R s m args below meth c H locs 0 0 Q (F0 m pc ls st)
theorem Mc.of {l : Launch} {y : MethodName} {cc : ByteArray} {nL : Nat} {ret : Option FieldType} {fr lo : Nat} {D : va_G} {cs : vCs} {ad : Nat → Nat → Nat} {av : List Value} {w : Wd} {rv : Option Value} {w' : Wd} (hy : plainName y.cls = true) (hn : (lg_sl av).length ≤ nL)
    (body : ∀ p e s m args below meth c, EV p m c cc nL s args y.cls y ret meth D cs ad → XV p l e { frames := fr, cells := 0, slots := 0, locals := lo } s m args below meth c nL D cs ad (MQ below (xQ D cs ad rv w') args s 0 0 (xF ad)) 0 (lv_args 0 av) [] w) : Mc l y cc nL ret fr lo D cs ad av w rv w' := by
  refine Met.ofW (cc := cc) (maxL := nL) (ret := ret) hy rfl ?_
  intro p e s m args below meth c s₁ B hml hv
  obtain ⟨rfl, hK, hH⟩ := hv
  have hts := atoms_spec (ws := wsM y cc nL ret) B.pre
  have hown : s.vm.findClass y.cls = some m.cls := findClass_of_methodNamed B.named
  rw [lg_entry_eq]
  exact body p e s m _ below meth c ⟨⟨B.exec, B.bytes, hml, hown, hts⟩, hK, B.returns, B.notSynchronized⟩ _ _ _ (lv_entry av hn) hH va_S.rf

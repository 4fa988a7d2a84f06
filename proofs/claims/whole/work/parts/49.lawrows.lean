/-! The law's own walk: rows over the numbers. -/
def LV (p : Program) (l : Launch) (e : Env) (s : State) (m : MethodId) (below : List Frame) (meth : Method) (c : Code) (b : Nat) (D : va_G) (cs : vCs) (ad : Nat → Nat → Nat) (pc : Nat) (lv : List (Nat × Value)) (st : List Value) (w : Wd) : Prop :=
  ∀ ls H locs, lv_has ls 4 lv → WH D cs ad w H → va_S (fun q : Nat => s.heap.size ≤ q) s.heap H locs → W p l e room_1 s m #[Value.ref b] below meth c H locs 600000 7302250 (lw_Z below #[Value.ref b] s) (F0 m pc ls st)
abbrev LE (p : Program) (s : State) (m : MethodId) (meth : Method) (c : Code) (b L : Nat) (xs : Nat → Int32) (D : va_G) (cs : vCs) (ad : Nat → Nat → Nat) : Prop := lw_At p s m meth c b L xs ∧ WK D cs ad s ∧ ∀ q, xF ad q → s.heap.size ≤ q
theorem gw_law {y' : MethodName} {cc' : ByteArray} {nL' : Nat} {ret' : Option FieldType} (h : Cond.code y' cc' nL' ret' ∈ wsG) : GoodIn lw_tbl (wsM y' cc' nL' ret') := by
  intro w hw
  have hm : w ∈ wsG := by
    rcases List.mem_cons.mp hw with e | e
    · rw [e]; exact h
    · exact e
  exact ⟨wsG_in hm, good_of_word (gw_all hm)⟩
section LAWROWS
variable {p : Program} {l : Launch} {e : Env} {s : State} {m : MethodId} {below : List Frame} {meth : Method} {c : Code} {b L : Nat} {xs : Nat → Int32} {D : va_G} {cs : vCs} {ad : Nat → Nat → Nat}
variable {pc : Nat} {lv : List (Nat × Value)} {st : List Value} {w : Wd}
theorem l_back {ls : Array Slot} {H : Heap} {locs : List Loc} {rest st0 : List Value} {rv : Option Value} {w' : Wd} {a : Array Value} (E : LE p s m meth c b L xs D cs ad) (hl : lv_has ls 4 lv) (hs : va_S (fun q : Nat => s.heap.size ≤ q) s.heap H locs)
    (hr : va_Run p l e room_1 s m #[Value.ref b] below meth c H locs 600000 7302250 0 0 (F0 m pc ls st0) rest (xQ D cs ad rv w' a) (xF ad)) (k : LV p l e s m below meth c b D cs ad (pc + 3) lv (rv.toList ++ rest) w') : W p l e room_1 s m #[Value.ref b] below meth c H locs 600000 7302250 (lw_Z below #[Value.ref b] s) (F0 m pc ls st0) := by
  intro T hT X
  obtain ⟨v, st₀, t, T', L', h0, X', hL, e1, e2, ⟨⟨hv, hb⟩, hz, hk⟩, st⟩ := hr T hT X
  cases hv
  rw [h0] at hz hk
  obtain ⟨t2, a1, b1⟩ := k ls T'.heap (locs ++ L') hl (by rw [e1]; exact hb)
    ⟨Nat.le_trans hs.1 (by rw [e1]; exact hz), fun q h1 h2 => by rw [e1, hk q (Nat.lt_of_lt_of_le h1 hs.1) (fun z => h2 (E.2.2 q z))]; exact hs.2.1 q h1 h2, fun q hq => by
      rcases List.mem_append.mp hq with h | h
      · exact hs.2.2 q h
      · exact E.2.2 _ (hL q h)⟩ T' rfl X'
  exact ⟨t2, st t2 a1, b1⟩
theorem l_callV (E : LE p s m meth c b L xs D cs ad) {y2 : MethodName} {cc2 : ByteArray} {nL2 n idx fr lo ci : Nat} {ret2 : Option FieldType} (my : MYV y2 cc2 nL2 ret2 n) (lk : Cond.methodLink R_law idx y2 ∈ lw_tbl) {g : Nat} {As rest : List Value} {rv : Option Value} {w' : Wd} (hM : Mc l y2 cc2 nL2 ret2 fr lo D cs ad (.ref (ad g 0) :: As) w rv w') (hkl : kl g = ci) (hC : (vwCl[ci]?).map (fun q => q.1) = some y2.cls) (hn : As.length = n)
    (hR : fr + 1 ≤ room_1.frames ∧ 8 + (nL2 + 11) + lo ≤ room_1.locals) (hc : (rest.map fun v => v.category).sum ≤ 8) (d : decode code pc = .ok (.invokevirtual idx, 3)) (k : LV p l e s m below meth c b D cs ad (pc + 3) lv (rv.toList ++ rest) w') : LV p l e s m below meth c b D cs ad pc lv (As.reverse ++ .ref (ad g 0) :: rest) w := by
  intro ls H locs hl hh hs
  obtain ⟨hx, hb, hr, hml, hown, hts, hX, hbl, hlocks, hgv⟩ := id E.1
  obtain ⟨i1, i2, i3, i4, i5, i6, i7⟩ := my
  have hrecv : ∃ cellB : Cell, H[ad g 0]? = some cellB ∧ cellB.vm.isStatics = false ∧ s.vm.findClass y2.cls = some cellB.cls := by
    cases hq : vwCl[ci]? with
    | none => rw [hq] at hC; cases hC
    | some q =>
      rw [hq] at hC
      have h7 : kl g < 7 := by rw [hkl]; exact vwCl_lt hq
      obtain ⟨r, h1, cell, q1, q2, q3, q4⟩ := hh.1 g h7
      rw [hkl] at h1 q2
      have hr : r = q := Option.some.inj (h1.symm.trans hq)
      have hn : q.1 = y2.cls := Option.some.inj hC
      refine ⟨cell, q1, by rw [q3]; rfl, ?_⟩
      rw [q2, ← hn]
      exact (E.2.1.1 ci q hq).2.1
  refine l_back E hl hs (va_runV (As := As) (rest := rest) (C := y2.cls) (n := n) (bytes := cc2) (maxL := nL2) (ret := ret2) ⟨hx, hb, hml, hown, hts⟩ hM ⟨callB_of n hts (gw_law i4) rfl rfl rfl (hts _ (wsG_in i3)) (hts _ lk) ⟨i5, i6, i7⟩ hR, hts _ (wsG_in i1), hts _ (wsG_in i2)⟩ ⟨xP_blind, hrecv, fun U hU hW => ⟨rfl, WK.moved hW E.2.1, by rw [hU]; exact hh⟩⟩ rfl hn hl.1 rfl (lv_room hc) d ⟨Nat.le_of_ble_eq_true rfl, Nat.le_of_ble_eq_true rfl⟩) k
end LAWROWS

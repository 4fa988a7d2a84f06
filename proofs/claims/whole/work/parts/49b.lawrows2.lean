/-! The law's own walk: more rows. -/
def lvL (b : Nat) (ad : Nat → Nat → Nat) (x3 : Int32) : List (Nat × Value) := [(0, .ref b), (1, .ref (ad 0 0)), (2, .ref (ad 12 0)), (3, .int x3)]
theorem i64lt (r : Int64) : ¬ r < r := fun h => Int.lt_irrefl _ (Int64.lt_iff_toInt_lt.mp h)
section LAWROWS2
variable {p : Program} {l : Launch} {e : Env} {s : State} {m : MethodId} {below : List Frame} {meth : Method} {c : Code} {b L : Nat} {xs : Nat → Int32} {D : va_G} {cs : vCs} {ad : Nat → Nat → Nat}
variable {pc : Nat} {lv : List (Nat × Value)} {st : List Value} {w : Wd} {x3 : Int32}
theorem l_aload (E : LE p s m meth c b L xs D cs ad) {k0 : Fin 4} {i a : Nat} (d : decode cL_law pc = .ok (.aload_n k0, 1)) (hi : (k0 : Nat) = i) (j : Nat) (hj : lv[j]? = some (i, .ref a)) (k : LV p l e s m below meth c b D cs ad (pc + 1) lv (.ref a :: st) w) : LV p l e s m below meth c b D cs ad pc lv st w := fun ls H locs hl hh hs => lv_aload_n E.1.1 E.1.2.1 d hi (lv_at hl j hj) (k ls H locs hl hh hs)
theorem l_arg (E : LE p s m meth c b L xs D cs ad) {j : Int} {v : Int32} (hin : vp_in (x3 + v) L) (d0 : decode cL_law pc = .ok (.aload_n 0, 1)) (d1 : decode cL_law (pc + 1) = .ok (.iload_n 3, 1)) (d2 : decode cL_law (pc + 2) = .ok (.iconst j, 1)) (hv : Int32.ofInt j = v) (d3 : decode cL_law (pc + 3) = .ok (.iadd, 1)) (d4 : decode cL_law (pc + 4) = .ok (.iaload, 1)) (k : LV p l e s m below meth c b D cs ad (pc + 5) (lvL b ad x3) (.int (xs (x3 + v).toNatClampNeg) :: st) w) : LV p l e s m below meth c b D cs ad pc (lvL b ad x3) st w := by
  intro ls H locs hl hh hs
  obtain ⟨hx, hb, hr, hml, hown, hts, hX, hbl, hlocks, hgv⟩ := id E.1
  refine lv_aload_n hx hb d0 rfl (lv_at hl 0 rfl) ?_
  refine lv_iload_n hx hb d1 rfl (lv_at hl 3 rfl) ?_
  refine lv_iconst hx hb d2 hv ?_
  refine lv_iadd hx hb d3 ?_
  exact va_sld hx hb hX hbl (Nat.not_le.mpr hbl) hs hin d4 (k ls H locs hl hh hs)
theorem l_eq (E : LE p s m meth c b L xs D cs ad) {r : Int32} {off : Int} {tgt : Nat} (d : decode cL_law pc = .ok (.if_icmp .eq off, 3)) (ht : (pc : Int) + off = (tgt : Int)) (k : LV p l e s m below meth c b D cs ad tgt lv st w) : LV p l e s m below meth c b D cs ad pc lv (.int r :: .int r :: st) w := fun ls H locs hl hh hs => lv_icmp_eq E.1.1 E.1.2.1 d ht (fun _ => k ls H locs hl hh hs) (fun h => absurd rfl h)
theorem l_leq (E : LE p s m meth c b L xs D cs ad) {r : Int64} {off : Int} {tgt : Nat} (d : decode cL_law pc = .ok (.lcmp, 1)) (d2 : decode cL_law (pc + 1) = .ok (.ifCond .eq off, 3)) (ht : ((pc + 1 : Nat) : Int) + off = (tgt : Int)) (k : LV p l e s m below meth c b D cs ad tgt lv st w) : LV p l e s m below meth c b D cs ad pc lv (.long r :: .long r :: st) w := by
  intro ls H locs hl hh hs
  refine W.lcmp E.1.1 E.1.2.1 d ?_
  refine lv_if_eq E.1.1 E.1.2.1 d2 ht (fun _ => k ls H locs hl hh hs) (fun h => absurd ?_ h)
  unfold lg_cmp
  rw [if_neg (i64lt r)]
  first | rw [if_pos rfl] | rw [if_neg (i64lt r)]
theorem l_tin (E : LE p s m meth c b L xs D cs ad) {dflt lo hi : Int} {offs : Array Int} {len : Nat} {x kv : Int32} {a off : Int} {tgt : Nat} (d : decode cL_law pc = .ok (.tableswitch dflt lo hi offs, len)) (hx : x = kv) (hk : kv.toInt = a) (h1 : ¬ a < lo) (h2 : ¬ hi < a) (ho : offs[(a - lo).toNat]? = some off) (ht : (pc : Int) + off = (tgt : Int)) (k : LV p l e s m below meth c b D cs ad tgt lv st w) : LV p l e s m below meth c b D cs ad pc lv (.int x :: st) w := fun ls H locs hl hh hs => by
  subst hx; subst hk
  exact lv_tableIn E.1.1 E.1.2.1 d h1 h2 ho ht (k ls H locs hl hh hs)
theorem l_tout (E : LE p s m meth c b L xs D cs ad) {dflt lo hi : Int} {offs : Array Int} {len : Nat} {x : Int32} {tgt : Nat} (d : decode cL_law pc = .ok (.tableswitch dflt lo hi offs, len)) (h : x.toInt < lo ∨ hi < x.toInt) (ht : (pc : Int) + dflt = (tgt : Int)) (k : LV p l e s m below meth c b D cs ad tgt lv st w) : LV p l e s m below meth c b D cs ad pc lv (.int x :: st) w := fun ls H locs hl hh hs => lv_tableOut E.1.1 E.1.2.1 d h ht (k ls H locs hl hh hs)
theorem ofNat_iI (n : Nat) : Int32.ofNat n = iI (n : Nat) := by
  apply Int32.toBitVec_inj.mp
  rw [bv_iI]
  rfl
theorem vp_iI {i L : Nat} (h : i < L) (hL : L ≤ 2048) : vp_in (iI (i : Nat)) L := (iI_in (by omega)).mpr (by omega)
theorem l_loop (E : LE p s m meth c b L xs D cs ad) (hL : L ≤ 2048) (cs' : ∀ w (i : Nat), i + 4 ≤ L → Rel w → (∀ w', Rel w' → LV p l e s m below meth c b D cs ad 680 (lvL b ad (iI (i : Nat))) [] w') → LV p l e s m below meth c b D cs ad 32 (lvL b ad (iI (i : Nat))) [.int (xs (iI (i : Nat)).toNatClampNeg &&& 31)] w) :
    ∀ d (i : Nat) w, L < i + d → i ≤ L + 4 → Rel w → LV p l e s m below meth c b D cs ad 18 (lvL b ad (iI (i : Nat))) [] w := by
  obtain ⟨hx, hb, hr, hml, hown, hts, hX, hbl, hlocks, hgv⟩ := id E.1
  intro d
  induction d with
  | zero =>
    intro i w hd hi hR ls H locs hl hh hs
    refine lv_iload_n hx hb dL_law_18 rfl (lv_at hl 3 rfl) ?_
    refine lv_aload_n hx hb dL_law_19 rfl (lv_at hl 0 rfl) ?_
    refine va_slen hx hb hX hbl (Nat.not_le.mpr hbl) hs dL_law_20 ?_
    refine lv_iconst (v := iI 4) hx hb dL_law_21 (by decide) ?_
    refine lv_isub hx hb dL_law_22 ?_
    rw [ofNat_iI, iI_sub]
    refine lv_icmp_gt (tgt := 686) hx hb dL_law_23 (by decide) (fun _ => ?_) (fun q => absurd (yT (by omega) (by omega) (by omega)) q)
    refine lv_iconst (v := 1) hx hb dL_law_686 (by decide) ?_
    refine va_forget (fun q hq => hs.2.2 q hq) ?_
    exact lw_ret hx hb hr hlocks dL_law_687
  | succ d ih =>
    intro i w hd hi hR ls H locs hl hh hs
    refine lv_iload_n hx hb dL_law_18 rfl (lv_at hl 3 rfl) ?_
    refine lv_aload_n hx hb dL_law_19 rfl (lv_at hl 0 rfl) ?_
    refine va_slen hx hb hX hbl (Nat.not_le.mpr hbl) hs dL_law_20 ?_
    refine lv_iconst (v := iI 4) hx hb dL_law_21 (by decide) ?_
    refine lv_isub hx hb dL_law_22 ?_
    rw [ofNat_iI, iI_sub]
    refine lv_icmp_gt (tgt := 686) hx hb dL_law_23 (by decide) (fun _ => ?_) (fun q => ?_)
    · refine lv_iconst (v := 1) hx hb dL_law_686 (by decide) ?_
      refine va_forget (fun q hq => hs.2.2 q hq) ?_
      exact lw_ret hx hb hr hlocks dL_law_687
    · have hi4 : i + 4 ≤ L := by
        rcases Nat.lt_or_ge L (i + 4) with z | z
        · exact absurd (yT (by omega) (by omega) (by omega)) q
        · exact z
      refine lv_aload_n hx hb dL_law_26 rfl (lv_at hl 0 rfl) ?_
      refine lv_iload_n hx hb dL_law_27 rfl (lv_at hl 3 rfl) ?_
      refine va_sld hx hb hX hbl (Nat.not_le.mpr hbl) hs (vp_iI (by omega) hL) dL_law_28 ?_
      refine lv_bipush (v := 31) hx hb dL_law_29 (by decide) ?_
      refine lv_iand hx hb dL_law_31 ?_
      refine cs' w i hi4 hR (fun w' hR' ls H locs hl hh hs => ?_) ls H locs hl hh hs
      refine lv_iinc (v := iI ((i + 4 : Nat) : Int)) (lv' := [(3, .int (iI ((i + 4 : Nat) : Int))), (0, .ref b), (1, .ref (ad 0 0)), (2, .ref (ad 12 0))]) hx hb dL_law_680 hl (k := 3) rfl (by show iI (i : Nat) + iI 4 = _; rw [iI_add]; rfl) (by decide) rfl (fun ls hl => ?_)
      refine lv_goto (tgt := 18) hx hb dL_law_683 (by decide) ?_
      exact ih (i + 4) w' (by omega) (by omega) hR' ls H locs (lv_sub hl [1, 2, 3, 0] rfl) hh hs
end LAWROWS2

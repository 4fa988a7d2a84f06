/-! More rows: names for numbers, switches, ends. -/
theorem kl_rc {g : Nat} (h : kl g = 4) : kl (g - 4) = 0 := by
  unfold kl at h ⊢
  repeat' split at h
  all_goals first | (exact absurd h (by decide)) | skip
  rw [if_neg (by omega), if_pos (by omega)]
theorem x_split {P G : Prop} [Decidable P] {ρ : Type} {A B r : ρ} (hm : (if P then A else B) = r) (k1 : P → A = r → G) (k2 : ¬ P → B = r → G) : G := by
  by_cases h : P
  · exact k1 h ((if_pos h).symm.trans hm)
  · exact k2 h ((if_neg h).symm.trans hm)
section ROWS2
variable {p : Program} {l : Launch} {e : Env} {R : Room} {s : State} {m : MethodId} {args : Array Value} {below : List Frame} {meth : Method} {c : Code} {cc : ByteArray} {nL : Nat} {own : String} {y : MethodName} {ret : Option FieldType} {D : va_G} {cs : vCs} {ad : Nat → Nat → Nat} {Q : State → Prop}
variable {pc : Nat} {lv : List (Nat × Value)} {st : List Value} {w : Wd}
theorem x_bI {ρ : Type} {r : ρ} {v : Int32} {K : Int32 → ρ} (hm : bnd v K = r) (k : ∀ x, K x = r → XV p l e R s m args below meth c nL D cs ad Q pc lv (.int x :: st) w) : XV p l e R s m args below meth c nL D cs ad Q pc lv (.int v :: st) w := k v hm
theorem x_bL {ρ : Type} {r : ρ} {v : Int64} {K : Int64 → ρ} (hm : bnd v K = r) (k : ∀ x, K x = r → XV p l e R s m args below meth c nL D cs ad Q pc lv (.long x :: st) w) : XV p l e R s m args below meth c nL D cs ad Q pc lv (.long v :: st) w := k v hm
theorem x_bW {ρ : Type} {r : ρ} {v : Wd} {K : Wd → ρ} (hm : bnd v K = r) (k : ∀ x, K x = r → XV p l e R s m args below meth c nL D cs ad Q pc lv st x) : XV p l e R s m args below meth c nL D cs ad Q pc lv st v := k v hm
theorem x_iincB (E : EV p m c cc nL s args own y ret meth D cs ad) {ρ : Type} {r : ρ} {i j : Nat} {n : Int} {x v : Int32} {lv' : Int32 → List (Nat × Value)} {K : Int32 → ρ} (d : decode cc pc = .ok (.iinc i n, 3)) (hj : lv[j]? = some (i, .int x)) (hv : x + Int32.ofInt n = v) (hn : i < nL) (hl2 : ∀ v, (i, Value.int v) :: lv.filter (fun q => !(q.1 == i) && !(q.1 + 1 == i && q.2.category == 2)) = lv' v) (hm : bnd v K = r) (k : ∀ x, K x = r → XV p l e R s m args below meth c nL D cs ad Q (pc + 3) (lv' x) st w) : XV p l e R s m args below meth c nL D cs ad Q pc lv st w := x_iinc E d hj hv hn (hl2 v) (k v hm)
theorem x_tin (E : EV p m c cc nL s args own y ret meth D cs ad) {dflt lo hi : Int} {offs : Array Int} {len : Nat} {x kv : Int32} {a off : Int} {tgt : Nat} (d : decode cc pc = .ok (.tableswitch dflt lo hi offs, len)) (hx : x = kv) (hk : kv.toInt = a) (h1 : ¬ a < lo) (h2 : ¬ hi < a) (ho : offs[(a - lo).toNat]? = some off) (ht : (pc : Int) + off = (tgt : Int)) (k : XV p l e R s m args below meth c nL D cs ad Q tgt lv st w) : XV p l e R s m args below meth c nL D cs ad Q pc lv (.int x :: st) w := fun ls H locs hl hh hs => by
  subst hx; subst hk
  exact lv_tableIn E.1.1 E.1.2.1 d h1 h2 ho ht (k ls H locs hl hh hs)
theorem x_tout (E : EV p m c cc nL s args own y ret meth D cs ad) {dflt lo hi : Int} {offs : Array Int} {len : Nat} {x : Int32} {tgt : Nat} (d : decode cc pc = .ok (.tableswitch dflt lo hi offs, len)) (h : x.toInt < lo ∨ hi < x.toInt) (ht : (pc : Int) + dflt = (tgt : Int)) (k : XV p l e R s m args below meth c nL D cs ad Q tgt lv st w) : XV p l e R s m args below meth c nL D cs ad Q pc lv (.int x :: st) w := fun ls H locs hl hh hs => lv_tableOut E.1.1 E.1.2.1 d h ht (k ls H locs hl hh hs)
theorem x_lsw (E : EV p m c cc nL s args own y ret meth D cs ad) {dflt : Int} {ps : Array (Int × Int)} {len : Nat} {x : Int32} {off : Int} {tgt : Nat} (d : decode cc pc = .ok (.lookupswitch dflt ps, len)) (hp : (ps.toList.zip (ps.toList.drop 1)).all (fun (a, next) => a.1 < next.1) = true) (ho : Op.lookupswitch.offset ps.toList dflt x.toInt = off) (ht : (pc : Int) + off = (tgt : Int)) (k : XV p l e R s m args below meth c nL D cs ad Q tgt lv st w) : XV p l e R s m args below meth c nL D cs ad Q pc lv (.int x :: st) w := fun ls H locs hl hh hs => lv_lookup E.1.1 E.1.2.1 d hp ho ht (k ls H locs hl hh hs)
end ROWS2
section RETS2
variable {p : Program} {l : Launch} {e : Env} {R : Room} {s : State} {m : MethodId} {args : Array Value} {below : List Frame} {meth : Method} {c : Code} {cc : ByteArray} {nL : Nat} {own : String} {y : MethodName} {D : va_G} {cs : vCs} {ad : Nat → Nat → Nat}
variable {pc : Nat} {lv : List (Nat × Value)} {w w' : Wd}
theorem x_iretS (E : EV p m c cc nL s args own y (some .int) meth D cs ad) {x r : Int32} (hm : some (x, w) = some (r, w')) (d : decode cc pc = .ok (.ireturn, 1)) : XV p l e R s m args below meth c nL D cs ad (MQ below (xQ D cs ad (some (.int r)) w') args s 0 0 (xF ad)) pc lv [.int x] w := by cases hm; exact x_iret E d
theorem x_iretP (E : EV p m c cc nL s args own y (some .int) meth D cs ad) {x r : Int32} (hm : some x = some r) (d : decode cc pc = .ok (.ireturn, 1)) : XV p l e R s m args below meth c nL D cs ad (MQ below (xQ D cs ad (some (.int r)) w) args s 0 0 (xF ad)) pc lv [.int x] w := by cases hm; exact x_iret E d
theorem x_iretT (E : EV p m c cc nL s args own y (some .int) meth D cs ad) {x r : Int32} (hm : x = r) (d : decode cc pc = .ok (.ireturn, 1)) : XV p l e R s m args below meth c nL D cs ad (MQ below (xQ D cs ad (some (.int r)) w) args s 0 0 (xF ad)) pc lv [.int x] w := by cases hm; exact x_iret E d
theorem x_zretS (E : EV p m c cc nL s args own y (some .boolean) meth D cs ad) {x r : Int32} (hx : narrow .boolean (.int x) = .int x) (hm : some (x, w) = some (r, w')) (d : decode cc pc = .ok (.ireturn, 1)) : XV p l e R s m args below meth c nL D cs ad (MQ below (xQ D cs ad (some (.int r)) w') args s 0 0 (xF ad)) pc lv [.int x] w := by cases hm; exact x_zret E hx d
theorem x_zretP (E : EV p m c cc nL s args own y (some .boolean) meth D cs ad) {x r : Int32} (hx : narrow .boolean (.int x) = .int x) (hm : some x = some r) (d : decode cc pc = .ok (.ireturn, 1)) : XV p l e R s m args below meth c nL D cs ad (MQ below (xQ D cs ad (some (.int r)) w) args s 0 0 (xF ad)) pc lv [.int x] w := by cases hm; exact x_zret E hx d
theorem x_zretT (E : EV p m c cc nL s args own y (some .boolean) meth D cs ad) {x r : Int32} (hx : narrow .boolean (.int x) = .int x) (hm : x = r) (d : decode cc pc = .ok (.ireturn, 1)) : XV p l e R s m args below meth c nL D cs ad (MQ below (xQ D cs ad (some (.int r)) w) args s 0 0 (xF ad)) pc lv [.int x] w := by cases hm; exact x_zret E hx d
theorem x_lretS (E : EV p m c cc nL s args own y (some .long) meth D cs ad) {x r : Int64} (hm : some (x, w) = some (r, w')) (d : decode cc pc = .ok (.lreturn, 1)) : XV p l e R s m args below meth c nL D cs ad (MQ below (xQ D cs ad (some (.long r)) w') args s 0 0 (xF ad)) pc lv [.long x] w := by cases hm; exact x_lret E d
theorem x_lretT (E : EV p m c cc nL s args own y (some .long) meth D cs ad) {x r : Int64} (hm : x = r) (d : decode cc pc = .ok (.lreturn, 1)) : XV p l e R s m args below meth c nL D cs ad (MQ below (xQ D cs ad (some (.long r)) w) args s 0 0 (xF ad)) pc lv [.long x] w := by cases hm; exact x_lret E d
theorem x_vretS (E : EV p m c cc nL s args own y none meth D cs ad) (hm : some w = some w') (d : decode cc pc = .ok (.return_, 1)) : XV p l e R s m args below meth c nL D cs ad (MQ below (xQ D cs ad none w') args s 0 0 (xF ad)) pc lv [] w := by cases hm; exact x_vret E d
end RETS2

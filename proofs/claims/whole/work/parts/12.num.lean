/-! Numbers: every Int32 as iI of an integer in range. -/
abbrev inR (z : Int) : Prop := -2147483648 ≤ z ∧ z < 2147483648
theorem iI_toInt {z : Int} (h : inR z) : (iI z).toInt = z := Int32.toInt_ofInt_of_le (by have := h.1; omega) (by have := h.2; omega)
theorem iI_add (a b : Int) : iI a + iI b = iI (a + b) := (Int32.ofInt_add a b).symm
theorem iI_sub (a b : Int) : iI a - iI b = iI (a - b) := (Int32.ofInt_sub a b).symm
theorem iI_mul (a b : Int) : iI a * iI b = iI (a * b) := (Int32.ofInt_mul a b).symm
theorem iI_lt {a b : Int} (ha : inR a) (hb : inR b) : iI a < iI b ↔ a < b := by rw [Int32.lt_iff_toInt_lt, iI_toInt ha, iI_toInt hb]
theorem iI_le {a b : Int} (ha : inR a) (hb : inR b) : iI a ≤ iI b ↔ a ≤ b := by rw [Int32.le_iff_toInt_le, iI_toInt ha, iI_toInt hb]
theorem iI_eq {a b : Int} (ha : inR a) (hb : inR b) : iI a = iI b ↔ a = b := by rw [← Int32.toInt_inj, iI_toInt ha, iI_toInt hb]
theorem iI_z : (0 : Int32) = iI 0 := rfl
theorem iI_lt0 {a : Int} (ha : inR a) : iI a < 0 ↔ a < 0 := by rw [iI_z, iI_lt ha (by decide)]
theorem iI_le0 {a : Int} (ha : inR a) : iI a ≤ 0 ↔ a ≤ 0 := by rw [iI_z, iI_le ha (by decide)]
theorem iI_0lt {a : Int} (ha : inR a) : 0 < iI a ↔ 0 < a := by rw [iI_z, iI_lt (by decide) ha]
theorem iI_0le {a : Int} (ha : inR a) : 0 ≤ iI a ↔ 0 ≤ a := by rw [iI_z, iI_le (by decide) ha]
theorem iI_eq0 {a : Int} (ha : inR a) : iI a = 0 ↔ a = 0 := by rw [iI_z, iI_eq ha (by decide)]
theorem iI_cl {a : Int} (ha : inR a) : (iI a).toNatClampNeg = a.toNat := Int32.toNatClampNeg_ofInt_of_le (by have := ha.1; omega) (by have := ha.2; omega)
theorem iI_ex (x : Int32) : ∃ z : Int, inR z ∧ x = iI z := ⟨x.toInt, ⟨by have := x.le_toInt; omega, by have := x.toInt_lt; omega⟩, (Int32.ofInt_toInt x).symm⟩
theorem iI_in {a : Int} {n : Nat} (ha : inR a) : (¬ (iI a < 0 ∨ n ≤ (iI a).toNatClampNeg)) ↔ (0 ≤ a ∧ a < n) := by
  rw [iI_lt0 ha, iI_cl ha]; omega
theorem iI_div {a b : Int} (ha : 0 ≤ a) (ha2 : inR a) (hb : 0 < b) (hb2 : inR b) : iI a / iI b = iI (a / b) := by
  have h := Int32.toInt_div (iI a) (iI b)
  have e : (iI a / iI b).toInt = a / b := by
    rw [h, iI_toInt ha2, iI_toInt hb2, Int.tdiv_eq_ediv_of_nonneg ha]
    have h1 : 0 ≤ a / b := Int.ediv_nonneg ha (by omega)
    have h2 : a / b ≤ a := Int.ediv_le_self b ha
    have := ha2.2
    rw [Int.bmod_eq_of_le (by omega) (by omega)]
  rw [← Int32.ofInt_toInt (iI a / iI b), e]; rfl
theorem iI_irm {a b : Int} (ha : 0 ≤ a) (ha2 : inR a) (hb : 0 < b) (hb2 : inR b) : irm (iI a) (iI b) = iI (a % b) := by
  unfold irm
  rw [iI_div ha ha2 hb hb2, iI_mul, iI_sub]
  congr 1
  have := Int.emod_add_mul_ediv a b
  rw [Int.mul_comm] at this
  omega
theorem imax_iI {a b : Int} (ha : inR a) (hb : inR b) : imax (iI a) (iI b) = iI (max a b) := by
  unfold imax
  by_cases h : a < b
  · rw [if_pos ((iI_lt ha hb).mpr h)]; congr 1; omega
  · rw [if_neg (fun q => h ((iI_lt ha hb).mp q))]; congr 1; omega
theorem imin_iI {a b : Int} (ha : inR a) (hb : inR b) : imin (iI a) (iI b) = iI (min a b) := by
  unfold imin
  by_cases h : b < a
  · rw [if_pos ((iI_lt hb ha).mpr h)]; congr 1; omega
  · rw [if_neg (fun q => h ((iI_lt hb ha).mp q))]; congr 1; omega
theorem ga_z {ρ : Type} {w : Wd} {g o n : Nat} {a : Int} {K : Int32 → Option ρ} (h : 0 ≤ a ∧ a < n) (h2 : a < 2147483648) : ga w g o n (iI a) K = K (rd w g o a.toNat) := by
  have ha : inR a := ⟨by omega, h2⟩
  unfold ga
  rw [if_pos ((iI_in ha).mpr h), iI_cl ha]
theorem ga_n {ρ : Type} {w : Wd} {g o n k : Nat} {K : Int32 → Option ρ} (h : k < n) (h2 : n < 2147483648) : ga w g o n (iI k) K = K (rd w g o k) := by
  rw [ga_z (by omega) (by omega)]; rfl
theorem pa_z {ρ : Type} {w : Wd} {g o n : Nat} {a : Int} {v : Int32} {K : Wd → Option ρ} (h : 0 ≤ a ∧ a < n) (h2 : a < 2147483648) : pa w g o n (iI a) v K = K (wr w g o a.toNat v) := by
  have ha : inR a := ⟨by omega, h2⟩
  unfold pa
  rw [if_pos ((iI_in ha).mpr h), iI_cl ha]
theorem pa_n {ρ : Type} {w : Wd} {g o n k : Nat} {v : Int32} {K : Wd → Option ρ} (h : k < n) (h2 : n < 2147483648) : pa w g o n (iI k) v K = K (wr w g o k v) := by
  rw [pa_z (by omega) (by omega)]; rfl
theorem ix_z {ρ : Type} {n : Nat} {a : Int} {K : Nat → Option ρ} (h : 0 ≤ a ∧ a < n) (h2 : a < 2147483648) : ix n (iI a) K = K a.toNat := by
  have ha : inR a := ⟨by omega, h2⟩
  unfold ix
  rw [if_pos ((iI_in ha).mpr h), iI_cl ha]
theorem ix_n {ρ : Type} {n k : Nat} {K : Nat → Option ρ} (h : k < n) (h2 : n < 2147483648) : ix n (iI k) K = K k := by
  rw [ix_z (by omega) (by omega)]; rfl
theorem bI_s {α ρ : Type} {a : α} {w : Wd} {K : α → Wd → Option ρ} : bI (some (a, w)) K = K a w := rfl
theorem ob_s {α ρ : Type} {a : α} {K : α → Option ρ} : ob (some a) K = K a := rfl
theorem bnd_e {α ρ : Type} {a : α} {K : α → ρ} : bnd a K = K a := rfl
theorem zb_0 {ρ : Type} {K : Option ρ} : zb (iI 0) K = K := rfl
theorem zb_1 {ρ : Type} {K : Option ρ} : zb (iI 1) K = K := rfl
theorem nz_0 : nz (iI 0) = iI 0 := rfl
theorem nz_1 : nz (iI 1) = iI 1 := rfl
/-- reading behind a write, where the places are known -/
theorem rd_wr (w : Wd) (g o j : Nat) (v : Int32) (g' o' j' : Nat) : rd (wr w g o j v) g' o' j' = if g' = g ∧ o' = o ∧ j' = j then v else rd w g' o' j' := rfl
theorem rd_fill (w : Wd) (g o n : Nat) (v : Int32) (g' o' j' : Nat) : rd (wfill w g o n v) g' o' j' = if g' = g ∧ o' = o ∧ j' < n then v else rd w g' o' j' := rfl
theorem rd_copy (w : Wd) (g o g1 o1 n : Nat) (g' o' j' : Nat) : rd (wcopy w g o g1 o1 n) g' o' j' = if g' = g1 ∧ o' = o1 ∧ j' < n then rd w g o j' else rd w g' o' j' := rfl
theorem rd_wrl (w : Wd) (v : Int64) (g o j : Nat) : rd (wrl w v) g o j = rd w g o j := rfl
/-- w' is w but for the places in S -/
def Fr (S : Nat → Nat → Nat → Prop) (w w' : Wd) : Prop := (∀ g o j, ¬ S g o j → rd w' g o j = rd w g o j) ∧ w'.2 = w.2
theorem Fr.rf (S : Nat → Nat → Nat → Prop) (w : Wd) : Fr S w w := ⟨fun _ _ _ _ => rfl, rfl⟩
theorem Fr.tr {S : Nat → Nat → Nat → Prop} {w w1 w2 : Wd} (h : Fr S w w1) (h2 : Fr S w1 w2) : Fr S w w2 := ⟨fun g o j q => (h2.1 g o j q).trans (h.1 g o j q), h2.2.trans h.2⟩
theorem Fr.mono {S T : Nat → Nat → Nat → Prop} {w w1 : Wd} (h : Fr S w w1) (hs : ∀ g o j, S g o j → T g o j) : Fr T w w1 := ⟨fun g o j q => h.1 g o j (fun z => q (hs g o j z)), h.2⟩
theorem Fr.wr {S : Nat → Nat → Nat → Prop} {w w1 : Wd} (h : Fr S w w1) {g o j : Nat} (v : Int32) (hs : S g o j) : Fr S w (wr w1 g o j v) := ⟨fun g' o' j' q => (rd_ne (fun z => q (by rw [z.1, z.2.1, z.2.2]; exact hs))).trans (h.1 g' o' j' q), h.2⟩

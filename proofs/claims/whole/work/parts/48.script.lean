/-! The law's script, read. -/
def gS (κ : KX) (b N : Nat) (xs : Nat → Int32) : Prop := match κ with
  | (_, _, _, _, s, _, _, _, _, _, _, A, H0, _) => va_X b N xs s H0 ∧ b < H0.size ∧ ¬ A b
def sx (xs : Nat → Int32) (i : Int) : Int := (xs i.toNat).toInt
theorem sx_R (xs : Nat → Int32) (i : Int) : R32 (sx xs i) := by
  unfold sx R32
  have h1 := Int32.le_toInt (xs i.toNat)
  have h2 := Int32.toInt_lt (xs i.toNat)
  omega
section Script
variable {κ : KX} {D : CX} {lay : List Kd} {ad : Nat → Nat} {n1 n2 : Nat} {w : Wd} {pc : Nat} {ls : List (Nat × Value)} {st : List Value} {cc : ByteArray} {own : String} {rm : Room} {lc : Launch} {L b N : Nat} {xs : Nat → Int32}
theorem g_sld (X : gX κ D cc own rm lc L) (hs : gS κ b N xs) {i : Int} (hi : 0 ≤ i ∧ i < (N : Int)) (hN : N ≤ 4096) (hd : decode cc pc = .ok (.iaload, 1)) (k : G κ D lay ad n1 n2 w (pc + 1) ls (iv (sx xs i) :: st)) : G κ D lay ad n1 n2 w pc ls (iv i :: .ref b :: st) := by
  obtain ⟨p, l, e0, R, s, m, args, below, meth, cd, Q, A, H0, nL⟩ := κ
  obtain ⟨hx, hb, hml, hown, hts, hK, hlocks, hA, rfl, rfl, rfl⟩ := X
  intro H locs la hP hD hS hl
  have kk := k H locs la hP hD hS hl
  have e : iv (sx xs i) = .int (xs (iN i).toNatClampNeg) := by
    unfold iv sx
    rw [iN_toInt, iN_nat hi.1 (by omega)]
  rw [e] at kk
  exact va_sld hx hb hs.1 hs.2.1 hs.2.2 hS (iN_in hi (by omega)) hd kk
theorem g_slen (X : gX κ D cc own rm lc L) (hs : gS κ b N xs) (hd : decode cc pc = .ok (.arraylength, 1)) (k : G κ D lay ad n1 n2 w (pc + 1) ls (iv (N : Int) :: st)) : G κ D lay ad n1 n2 w pc ls (.ref b :: st) := by
  obtain ⟨p, l, e0, R, s, m, args, below, meth, cd, Q, A, H0, nL⟩ := κ
  obtain ⟨hx, hb, hml, hown, hts, hK, hlocks, hA, rfl, rfl, rfl⟩ := X
  intro H locs la hP hD hS hl
  have kk := k H locs la hP hD hS hl
  unfold iv at kk
  rw [← ofNat_iN] at kk
  exact va_slen hx hb hs.1 hs.2.1 hs.2.2 hS hd kk
end Script
theorem band31 (a : Int) : 0 ≤ band a 31 ∧ band a 31 ≤ 31 := by
  unfold band
  have h : iN a &&& iN 31 = iN a &&& 31 := rfl
  rw [h]
  generalize iN a = x
  have key : (x &&& 31).toBitVec.toNat ≤ 31 := by
    rw [Int32.toBitVec_and, BitVec.toNat_and]
    exact Nat.and_le_right
  have e : (x &&& 31).toInt = ((x &&& 31).toBitVec.toNat : Int) := by
    show (x &&& 31).toBitVec.toInt = _
    rw [BitVec.toInt_eq_toNat_of_lt (by omega)]
  rw [e]
  omega

/-! whole_start. -/
theorem start_K {s : State} {args : Array Value} (htu : ∀ w ∈ Wu, w.before args s = true) : ∃ D : CX, va_K D.1 vwCl (tyl D) s := by
  obtain ⟨c0, i0, k0⟩ := u_known (C := RX0) (T := TX0) (N := 11) (n := 11) htu inX0 (htu (.instantiable RX0 11) (wq 91 (by decide +kernel) (by decide +kernel)))
  obtain ⟨c1, i1, k1⟩ := u_known (C := RX1) (T := TX1) (N := 6) (n := 6) htu inX1 (htu (.instantiable RX1 6) (wq 143 (by decide +kernel) (by decide +kernel)))
  obtain ⟨c2, i2, k2⟩ := u_known (C := RX2) (T := TX2) (N := 3) (n := 3) htu inX2 (htu (.instantiable RX2 3) (wq 68 (by decide +kernel) (by decide +kernel)))
  obtain ⟨c3, i3, k3⟩ := u_known (C := RX3) (T := TX3) (N := 7) (n := 7) htu inX3 (htu (.instantiable RX3 7) (wq 60 (by decide +kernel) (by decide +kernel)))
  obtain ⟨c4, i4, k4⟩ := u_known (C := RX4) (T := TX4) (N := 16) (n := 16) htu inX4 (htu (.instantiable RX4 16) (wq 540 (by decide +kernel) (by decide +kernel)))
  obtain ⟨cI, aI, fI⟩ := arr_known (htu _ w_ai)
  obtain ⟨cL, aL, fL⟩ := arr_known (htu _ w_al)
  obtain ⟨cZ, aZ, fZ⟩ := arr_known (htu _ w_az)
  refine ⟨((fun k => if k = 0 then c0 else if k = 1 then c1 else if k = 2 then c2 else if k = 3 then c3 else c4, fun k => if k = 0 then i0 else if k = 1 then i1 else if k = 2 then i2 else if k = 3 then i3 else i4), cI, cL, cZ), fun k q hq => ?_, fun k q hq => ?_⟩
  · match k, hq with
    | 0, hq => cases hq; exact k0
    | 1, hq => cases hq; exact k1
    | 2, hq => cases hq; exact k2
    | 3, hq => cases hq; exact k3
    | 4, hq => cases hq; exact k4
    | k + 5, hq => simp at hq
  · match k, hq with
    | 0, hq => cases hq; exact ⟨aI, fI⟩
    | 1, hq => cases hq; exact ⟨aL, fL⟩
    | 2, hq => cases hq; exact ⟨aZ, fZ⟩
    | k + 3, hq => simp [tyl] at hq

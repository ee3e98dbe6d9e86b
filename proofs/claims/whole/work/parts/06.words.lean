/-! The layout of the law's world, and the words of the tables. -/
abbrev LAY : List Kd := [.inr (3, [some (some 1), some (some 5), some (some 16), some (some 22), some (some 23), some (some 24), some (some 25)]), .inr (2, [some (some 2), some (some 3), some (some 4)]), .inl (0, 12), .inl (0, 120), .inl (0, 5), .inr (0, [some none, some (some 6), some (some 7), some (some 8), some (some 9), some (some 10), some (some 11), some (some 12), some (some 13), some (some 14), some (some 15)]), .inl (0, 7), .inl (0, 7), .inl (0, 7), .inl (0, 7), .inl (0, 7), .inl (0, 7), .inl (0, 7), .inl (0, 7), .inl (0, 7), .inl (0, 7), .inr (1, [some none, some (some 17), some (some 18), some (some 19), some (some 20), some (some 21)]), .inl (0, 4), .inl (0, 4), .inl (2, 4), .inl (0, 4), .inl (0, 4), .inl (1, 128), .inl (1, 128), .inl (0, 128), .inl (0, 7), .inr (4, [some (some 27), some (some 28), some (some 29), some (some 30), some none, some (some 31), some none, some (some 32), some (some 33), some (some 34), some none, some (some 35), some (some 36), some (some 37), some (some 38), some (some 39)]), .inl (0, 12), .inl (0, 5), .inl (0, 120), .inl (0, 49), .inl (0, 20), .inl (2, 49), .inl (0, 7), .inl (0, 7), .inl (0, 7), .inl (0, 7), .inl (2, 28), .inl (0, 15488), .inl (0, 7), .inl (1, 1)]
-- 0 X ('o', 'TallShips')
-- 1 river ('o', 'TallShips$River')
-- 2 River.levels ('a', 0, 12)
-- 3 River.tugsAt ('a', 0, 120)
-- 4 River.settings ('a', 0, 5)
-- 5 fleet ('o', 'TallShips$Fleet')
-- 6 Fleet.length ('a', 0, 7)
-- 7 Fleet.draught ('a', 0, 7)
-- 8 Fleet.height ('a', 0, 7)
-- 9 Fleet.fame ('a', 0, 7)
-- 10 Fleet.needs ('a', 0, 7)
-- 11 Fleet.arrival ('a', 0, 7)
-- 12 Fleet.stop ('a', 0, 7)
-- 13 Fleet.fouls ('a', 0, 7)
-- 14 Fleet.berth ('a', 0, 7)
-- 15 Fleet.hourIn ('a', 0, 7)
-- 16 quays ('o', 'TallShips$Quays')
-- 17 Quays.length ('a', 0, 4)
-- 18 Quays.depth ('a', 0, 4)
-- 19 Quays.above ('a', 2, 4)
-- 20 Quays.crowd ('a', 0, 4)
-- 21 Quays.deck ('a', 0, 4)
-- 22 X.cheapest ('a', 1, 128)
-- 23 X.together ('a', 1, 128)
-- 24 X.span ('a', 0, 128)
-- 25 X.chances ('a', 0, 7)
-- 26 M ('o', 'TallShipsModel')
-- 27 M.tide ('a', 0, 12)
-- 28 M.bounds ('a', 0, 5)
-- 29 M.tugs ('a', 0, 120)
-- 30 M.ship ('a', 0, 49)
-- 31 M.quay ('a', 0, 20)
-- 32 M.fouls ('a', 2, 49)
-- 33 M.berth ('a', 0, 7)
-- 34 M.kept ('a', 0, 7)
-- 35 M.row ('a', 0, 7)
-- 36 M.best ('a', 0, 7)
-- 37 M.canLie ('a', 2, 28)
-- 38 M.rest ('a', 0, 15488)
-- 39 M.told ('a', 0, 7)
-- 40 out ('a', 1, 1)
theorem inX0 : ∀ w ∈ wsX00, w ∈ Wu := by decide +kernel
theorem inX1 : ∀ w ∈ wsX10, w ∈ Wu := by decide +kernel
theorem inX2 : ∀ w ∈ wsX20, w ∈ Wu := by decide +kernel
theorem inX3 : ∀ w ∈ wsX30, w ∈ Wu := by decide +kernel
theorem inX4 : ∀ w ∈ wsX40, w ∈ Wu := by decide +kernel
theorem wf_X3_12 : Cond.fieldLink RX3 12 RX3 (TX3 0).2.1 (TX3 0).2.2.1 ∈ Wu := wq 174 (by decide +kernel) (by decide +kernel)
theorem gf_X3_12 {κ : KX} {D : CX} {ad : Nat → Nat} {n1 n2 : Nat} {w : Wd} {pc : Nat} {ls : List (Nat × Value)} {st : List Value} {cc : ByteArray} {rm : Room} {lc : Launch} {L : Nat} (X : gX κ D cc RX3 rm lc L) (hd : decode cc pc = .ok (.getfield 12, 3)) (k : G κ D LAY ad n1 n2 w (pc + 3) ls (.ref (ad 1) :: st)) : G κ D LAY ad n1 n2 w pc ls (.ref (ad 0) :: st) := g_getr X (c := 0) (ci := 3) (k0 := 0) (N := 7) (C := RX3) (T := TX3) (c1 := 1) rfl rfl inX3 (by decide) rfl wf_X3_12 rfl hd k
theorem wf_X3_19 : Cond.fieldLink RX3 19 RX3 (TX3 1).2.1 (TX3 1).2.2.1 ∈ Wu := wq 175 (by decide +kernel) (by decide +kernel)
theorem gf_X3_19 {κ : KX} {D : CX} {ad : Nat → Nat} {n1 n2 : Nat} {w : Wd} {pc : Nat} {ls : List (Nat × Value)} {st : List Value} {cc : ByteArray} {rm : Room} {lc : Launch} {L : Nat} (X : gX κ D cc RX3 rm lc L) (hd : decode cc pc = .ok (.getfield 19, 3)) (k : G κ D LAY ad n1 n2 w (pc + 3) ls (.ref (ad 5) :: st)) : G κ D LAY ad n1 n2 w pc ls (.ref (ad 0) :: st) := g_getr X (c := 0) (ci := 3) (k0 := 1) (N := 7) (C := RX3) (T := TX3) (c1 := 5) rfl rfl inX3 (by decide) rfl wf_X3_19 rfl hd k
theorem wf_X3_26 : Cond.fieldLink RX3 26 RX3 (TX3 2).2.1 (TX3 2).2.2.1 ∈ Wu := wq 176 (by decide +kernel) (by decide +kernel)
theorem gf_X3_26 {κ : KX} {D : CX} {ad : Nat → Nat} {n1 n2 : Nat} {w : Wd} {pc : Nat} {ls : List (Nat × Value)} {st : List Value} {cc : ByteArray} {rm : Room} {lc : Launch} {L : Nat} (X : gX κ D cc RX3 rm lc L) (hd : decode cc pc = .ok (.getfield 26, 3)) (k : G κ D LAY ad n1 n2 w (pc + 3) ls (.ref (ad 16) :: st)) : G κ D LAY ad n1 n2 w pc ls (.ref (ad 0) :: st) := g_getr X (c := 0) (ci := 3) (k0 := 2) (N := 7) (C := RX3) (T := TX3) (c1 := 16) rfl rfl inX3 (by decide) rfl wf_X3_26 rfl hd k
theorem wf_X3_30 : Cond.fieldLink RX3 30 RX3 (TX3 3).2.1 (TX3 3).2.2.1 ∈ Wu := wq 177 (by decide +kernel) (by decide +kernel)
theorem gf_X3_30 {κ : KX} {D : CX} {ad : Nat → Nat} {n1 n2 : Nat} {w : Wd} {pc : Nat} {ls : List (Nat × Value)} {st : List Value} {cc : ByteArray} {rm : Room} {lc : Launch} {L : Nat} (X : gX κ D cc RX3 rm lc L) (hd : decode cc pc = .ok (.getfield 30, 3)) (k : G κ D LAY ad n1 n2 w (pc + 3) ls (.ref (ad 22) :: st)) : G κ D LAY ad n1 n2 w pc ls (.ref (ad 0) :: st) := g_getr X (c := 0) (ci := 3) (k0 := 3) (N := 7) (C := RX3) (T := TX3) (c1 := 22) rfl rfl inX3 (by decide) rfl wf_X3_30 rfl hd k
theorem wf_X3_34 : Cond.fieldLink RX3 34 RX3 (TX3 4).2.1 (TX3 4).2.2.1 ∈ Wu := wq 178 (by decide +kernel) (by decide +kernel)
theorem gf_X3_34 {κ : KX} {D : CX} {ad : Nat → Nat} {n1 n2 : Nat} {w : Wd} {pc : Nat} {ls : List (Nat × Value)} {st : List Value} {cc : ByteArray} {rm : Room} {lc : Launch} {L : Nat} (X : gX κ D cc RX3 rm lc L) (hd : decode cc pc = .ok (.getfield 34, 3)) (k : G κ D LAY ad n1 n2 w (pc + 3) ls (.ref (ad 23) :: st)) : G κ D LAY ad n1 n2 w pc ls (.ref (ad 0) :: st) := g_getr X (c := 0) (ci := 3) (k0 := 4) (N := 7) (C := RX3) (T := TX3) (c1 := 23) rfl rfl inX3 (by decide) rfl wf_X3_34 rfl hd k
theorem wf_X3_37 : Cond.fieldLink RX3 37 RX3 (TX3 5).2.1 (TX3 5).2.2.1 ∈ Wu := wq 179 (by decide +kernel) (by decide +kernel)
theorem gf_X3_37 {κ : KX} {D : CX} {ad : Nat → Nat} {n1 n2 : Nat} {w : Wd} {pc : Nat} {ls : List (Nat × Value)} {st : List Value} {cc : ByteArray} {rm : Room} {lc : Launch} {L : Nat} (X : gX κ D cc RX3 rm lc L) (hd : decode cc pc = .ok (.getfield 37, 3)) (k : G κ D LAY ad n1 n2 w (pc + 3) ls (.ref (ad 24) :: st)) : G κ D LAY ad n1 n2 w pc ls (.ref (ad 0) :: st) := g_getr X (c := 0) (ci := 3) (k0 := 5) (N := 7) (C := RX3) (T := TX3) (c1 := 24) rfl rfl inX3 (by decide) rfl wf_X3_37 rfl hd k
theorem wf_X3_41 : Cond.fieldLink RX3 41 RX3 (TX3 6).2.1 (TX3 6).2.2.1 ∈ Wu := wq 180 (by decide +kernel) (by decide +kernel)
theorem gf_X3_41 {κ : KX} {D : CX} {ad : Nat → Nat} {n1 n2 : Nat} {w : Wd} {pc : Nat} {ls : List (Nat × Value)} {st : List Value} {cc : ByteArray} {rm : Room} {lc : Launch} {L : Nat} (X : gX κ D cc RX3 rm lc L) (hd : decode cc pc = .ok (.getfield 41, 3)) (k : G κ D LAY ad n1 n2 w (pc + 3) ls (.ref (ad 25) :: st)) : G κ D LAY ad n1 n2 w pc ls (.ref (ad 0) :: st) := g_getr X (c := 0) (ci := 3) (k0 := 6) (N := 7) (C := RX3) (T := TX3) (c1 := 25) rfl rfl inX3 (by decide) rfl wf_X3_41 rfl hd k
theorem wf_X3_48 : Cond.fieldLink RX3 48 RX2 (TX2 0).2.1 (TX2 0).2.2.1 ∈ Wu := wq 77 (by decide +kernel) (by decide +kernel)
theorem gf_X3_48 {κ : KX} {D : CX} {ad : Nat → Nat} {n1 n2 : Nat} {w : Wd} {pc : Nat} {ls : List (Nat × Value)} {st : List Value} {cc : ByteArray} {rm : Room} {lc : Launch} {L : Nat} (X : gX κ D cc RX3 rm lc L) (hd : decode cc pc = .ok (.getfield 48, 3)) (k : G κ D LAY ad n1 n2 w (pc + 3) ls (.ref (ad 2) :: st)) : G κ D LAY ad n1 n2 w pc ls (.ref (ad 1) :: st) := g_getr X (c := 1) (ci := 2) (k0 := 0) (N := 3) (C := RX2) (T := TX2) (c1 := 2) rfl rfl inX2 (by decide) rfl wf_X3_48 rfl hd k
theorem wf_X3_54 : Cond.fieldLink RX3 54 RX2 (TX2 2).2.1 (TX2 2).2.2.1 ∈ Wu := wq 81 (by decide +kernel) (by decide +kernel)
theorem gf_X3_54 {κ : KX} {D : CX} {ad : Nat → Nat} {n1 n2 : Nat} {w : Wd} {pc : Nat} {ls : List (Nat × Value)} {st : List Value} {cc : ByteArray} {rm : Room} {lc : Launch} {L : Nat} (X : gX κ D cc RX3 rm lc L) (hd : decode cc pc = .ok (.getfield 54, 3)) (k : G κ D LAY ad n1 n2 w (pc + 3) ls (.ref (ad 4) :: st)) : G κ D LAY ad n1 n2 w pc ls (.ref (ad 1) :: st) := g_getr X (c := 1) (ci := 2) (k0 := 2) (N := 3) (C := RX2) (T := TX2) (c1 := 4) rfl rfl inX2 (by decide) rfl wf_X3_54 rfl hd k
theorem wf_X3_61 : Cond.fieldLink RX3 61 RX2 (TX2 1).2.1 (TX2 1).2.2.1 ∈ Wu := wq 79 (by decide +kernel) (by decide +kernel)
theorem gf_X3_61 {κ : KX} {D : CX} {ad : Nat → Nat} {n1 n2 : Nat} {w : Wd} {pc : Nat} {ls : List (Nat × Value)} {st : List Value} {cc : ByteArray} {rm : Room} {lc : Launch} {L : Nat} (X : gX κ D cc RX3 rm lc L) (hd : decode cc pc = .ok (.getfield 61, 3)) (k : G κ D LAY ad n1 n2 w (pc + 3) ls (.ref (ad 3) :: st)) : G κ D LAY ad n1 n2 w pc ls (.ref (ad 1) :: st) := g_getr X (c := 1) (ci := 2) (k0 := 1) (N := 3) (C := RX2) (T := TX2) (c1 := 3) rfl rfl inX2 (by decide) rfl wf_X3_61 rfl hd k
theorem wf_X3_68 : Cond.fieldLink RX3 68 RX0 (TX0 0).2.1 (TX0 0).2.2.1 ∈ Wu := wq 98 (by decide +kernel) (by decide +kernel)
theorem gf_X3_68 {κ : KX} {D : CX} {ad : Nat → Nat} {n1 n2 : Nat} {w : Wd} {pc : Nat} {ls : List (Nat × Value)} {st : List Value} {cc : ByteArray} {rm : Room} {lc : Launch} {L : Nat} (X : gX κ D cc RX3 rm lc L) (hd : decode cc pc = .ok (.getfield 68, 3)) (k : G κ D LAY ad n1 n2 w (pc + 3) ls (iv (w 5 0) :: st)) : G κ D LAY ad n1 n2 w pc ls (.ref (ad 5) :: st) := g_geti X (c := 5) (ci := 0) (k0 := 0) (N := 11) (C := RX0) (T := TX0) rfl rfl inX0 (by decide) rfl wf_X3_68 rfl hd k
theorem gp_X3_68 {κ : KX} {D : CX} {ad : Nat → Nat} {n1 n2 : Nat} {w : Wd} {pc : Nat} {ls : List (Nat × Value)} {st : List Value} {cc : ByteArray} {rm : Room} {lc : Launch} {L : Nat} (X : gX κ D cc RX3 rm lc L) {x : Int} (hd : decode cc pc = .ok (.putfield 68, 3)) (k : G κ D LAY ad n1 n2 (wset w 5 0 x) (pc + 3) ls st) : G κ D LAY ad n1 n2 w pc ls (iv x :: .ref (ad 5) :: st) := g_puti X (c := 5) (ci := 0) (k0 := 0) (N := 11) (C := RX0) (T := TX0) tyX0 tyX0_ok nmX0 rfl rfl inX0 (by decide) rfl wf_X3_68 rfl rfl (by decide +kernel) hd k
theorem wf_X3_72 : Cond.fieldLink RX3 72 RX0 (TX0 1).2.1 (TX0 1).2.2.1 ∈ Wu := wq 100 (by decide +kernel) (by decide +kernel)
theorem gf_X3_72 {κ : KX} {D : CX} {ad : Nat → Nat} {n1 n2 : Nat} {w : Wd} {pc : Nat} {ls : List (Nat × Value)} {st : List Value} {cc : ByteArray} {rm : Room} {lc : Launch} {L : Nat} (X : gX κ D cc RX3 rm lc L) (hd : decode cc pc = .ok (.getfield 72, 3)) (k : G κ D LAY ad n1 n2 w (pc + 3) ls (.ref (ad 6) :: st)) : G κ D LAY ad n1 n2 w pc ls (.ref (ad 5) :: st) := g_getr X (c := 5) (ci := 0) (k0 := 1) (N := 11) (C := RX0) (T := TX0) (c1 := 6) rfl rfl inX0 (by decide) rfl wf_X3_72 rfl hd k
theorem wf_X3_75 : Cond.fieldLink RX3 75 RX0 (TX0 2).2.1 (TX0 2).2.2.1 ∈ Wu := wq 102 (by decide +kernel) (by decide +kernel)
theorem gf_X3_75 {κ : KX} {D : CX} {ad : Nat → Nat} {n1 n2 : Nat} {w : Wd} {pc : Nat} {ls : List (Nat × Value)} {st : List Value} {cc : ByteArray} {rm : Room} {lc : Launch} {L : Nat} (X : gX κ D cc RX3 rm lc L) (hd : decode cc pc = .ok (.getfield 75, 3)) (k : G κ D LAY ad n1 n2 w (pc + 3) ls (.ref (ad 7) :: st)) : G κ D LAY ad n1 n2 w pc ls (.ref (ad 5) :: st) := g_getr X (c := 5) (ci := 0) (k0 := 2) (N := 11) (C := RX0) (T := TX0) (c1 := 7) rfl rfl inX0 (by decide) rfl wf_X3_75 rfl hd k
theorem wf_X3_78 : Cond.fieldLink RX3 78 RX0 (TX0 3).2.1 (TX0 3).2.2.1 ∈ Wu := wq 104 (by decide +kernel) (by decide +kernel)
theorem gf_X3_78 {κ : KX} {D : CX} {ad : Nat → Nat} {n1 n2 : Nat} {w : Wd} {pc : Nat} {ls : List (Nat × Value)} {st : List Value} {cc : ByteArray} {rm : Room} {lc : Launch} {L : Nat} (X : gX κ D cc RX3 rm lc L) (hd : decode cc pc = .ok (.getfield 78, 3)) (k : G κ D LAY ad n1 n2 w (pc + 3) ls (.ref (ad 8) :: st)) : G κ D LAY ad n1 n2 w pc ls (.ref (ad 5) :: st) := g_getr X (c := 5) (ci := 0) (k0 := 3) (N := 11) (C := RX0) (T := TX0) (c1 := 8) rfl rfl inX0 (by decide) rfl wf_X3_78 rfl hd k
theorem wf_X3_81 : Cond.fieldLink RX3 81 RX0 (TX0 4).2.1 (TX0 4).2.2.1 ∈ Wu := wq 106 (by decide +kernel) (by decide +kernel)
theorem gf_X3_81 {κ : KX} {D : CX} {ad : Nat → Nat} {n1 n2 : Nat} {w : Wd} {pc : Nat} {ls : List (Nat × Value)} {st : List Value} {cc : ByteArray} {rm : Room} {lc : Launch} {L : Nat} (X : gX κ D cc RX3 rm lc L) (hd : decode cc pc = .ok (.getfield 81, 3)) (k : G κ D LAY ad n1 n2 w (pc + 3) ls (.ref (ad 9) :: st)) : G κ D LAY ad n1 n2 w pc ls (.ref (ad 5) :: st) := g_getr X (c := 5) (ci := 0) (k0 := 4) (N := 11) (C := RX0) (T := TX0) (c1 := 9) rfl rfl inX0 (by decide) rfl wf_X3_81 rfl hd k
theorem wf_X3_84 : Cond.fieldLink RX3 84 RX0 (TX0 5).2.1 (TX0 5).2.2.1 ∈ Wu := wq 108 (by decide +kernel) (by decide +kernel)
theorem gf_X3_84 {κ : KX} {D : CX} {ad : Nat → Nat} {n1 n2 : Nat} {w : Wd} {pc : Nat} {ls : List (Nat × Value)} {st : List Value} {cc : ByteArray} {rm : Room} {lc : Launch} {L : Nat} (X : gX κ D cc RX3 rm lc L) (hd : decode cc pc = .ok (.getfield 84, 3)) (k : G κ D LAY ad n1 n2 w (pc + 3) ls (.ref (ad 10) :: st)) : G κ D LAY ad n1 n2 w pc ls (.ref (ad 5) :: st) := g_getr X (c := 5) (ci := 0) (k0 := 5) (N := 11) (C := RX0) (T := TX0) (c1 := 10) rfl rfl inX0 (by decide) rfl wf_X3_84 rfl hd k
theorem wf_X3_87 : Cond.fieldLink RX3 87 RX0 (TX0 6).2.1 (TX0 6).2.2.1 ∈ Wu := wq 110 (by decide +kernel) (by decide +kernel)
theorem gf_X3_87 {κ : KX} {D : CX} {ad : Nat → Nat} {n1 n2 : Nat} {w : Wd} {pc : Nat} {ls : List (Nat × Value)} {st : List Value} {cc : ByteArray} {rm : Room} {lc : Launch} {L : Nat} (X : gX κ D cc RX3 rm lc L) (hd : decode cc pc = .ok (.getfield 87, 3)) (k : G κ D LAY ad n1 n2 w (pc + 3) ls (.ref (ad 11) :: st)) : G κ D LAY ad n1 n2 w pc ls (.ref (ad 5) :: st) := g_getr X (c := 5) (ci := 0) (k0 := 6) (N := 11) (C := RX0) (T := TX0) (c1 := 11) rfl rfl inX0 (by decide) rfl wf_X3_87 rfl hd k
theorem wf_X3_90 : Cond.fieldLink RX3 90 RX0 (TX0 7).2.1 (TX0 7).2.2.1 ∈ Wu := wq 112 (by decide +kernel) (by decide +kernel)
theorem gf_X3_90 {κ : KX} {D : CX} {ad : Nat → Nat} {n1 n2 : Nat} {w : Wd} {pc : Nat} {ls : List (Nat × Value)} {st : List Value} {cc : ByteArray} {rm : Room} {lc : Launch} {L : Nat} (X : gX κ D cc RX3 rm lc L) (hd : decode cc pc = .ok (.getfield 90, 3)) (k : G κ D LAY ad n1 n2 w (pc + 3) ls (.ref (ad 12) :: st)) : G κ D LAY ad n1 n2 w pc ls (.ref (ad 5) :: st) := g_getr X (c := 5) (ci := 0) (k0 := 7) (N := 11) (C := RX0) (T := TX0) (c1 := 12) rfl rfl inX0 (by decide) rfl wf_X3_90 rfl hd k
theorem wf_X3_93 : Cond.fieldLink RX3 93 RX1 (TX1 0).2.1 (TX1 0).2.2.1 ∈ Wu := wq 149 (by decide +kernel) (by decide +kernel)
theorem gf_X3_93 {κ : KX} {D : CX} {ad : Nat → Nat} {n1 n2 : Nat} {w : Wd} {pc : Nat} {ls : List (Nat × Value)} {st : List Value} {cc : ByteArray} {rm : Room} {lc : Launch} {L : Nat} (X : gX κ D cc RX3 rm lc L) (hd : decode cc pc = .ok (.getfield 93, 3)) (k : G κ D LAY ad n1 n2 w (pc + 3) ls (iv (w 16 0) :: st)) : G κ D LAY ad n1 n2 w pc ls (.ref (ad 16) :: st) := g_geti X (c := 16) (ci := 1) (k0 := 0) (N := 6) (C := RX1) (T := TX1) rfl rfl inX1 (by decide) rfl wf_X3_93 rfl hd k
theorem gp_X3_93 {κ : KX} {D : CX} {ad : Nat → Nat} {n1 n2 : Nat} {w : Wd} {pc : Nat} {ls : List (Nat × Value)} {st : List Value} {cc : ByteArray} {rm : Room} {lc : Launch} {L : Nat} (X : gX κ D cc RX3 rm lc L) {x : Int} (hd : decode cc pc = .ok (.putfield 93, 3)) (k : G κ D LAY ad n1 n2 (wset w 16 0 x) (pc + 3) ls st) : G κ D LAY ad n1 n2 w pc ls (iv x :: .ref (ad 16) :: st) := g_puti X (c := 16) (ci := 1) (k0 := 0) (N := 6) (C := RX1) (T := TX1) tyX1 tyX1_ok nmX1 rfl rfl inX1 (by decide) rfl wf_X3_93 rfl rfl (by decide +kernel) hd k
theorem wf_X3_94 : Cond.fieldLink RX3 94 RX1 (TX1 1).2.1 (TX1 1).2.2.1 ∈ Wu := wq 151 (by decide +kernel) (by decide +kernel)
theorem gf_X3_94 {κ : KX} {D : CX} {ad : Nat → Nat} {n1 n2 : Nat} {w : Wd} {pc : Nat} {ls : List (Nat × Value)} {st : List Value} {cc : ByteArray} {rm : Room} {lc : Launch} {L : Nat} (X : gX κ D cc RX3 rm lc L) (hd : decode cc pc = .ok (.getfield 94, 3)) (k : G κ D LAY ad n1 n2 w (pc + 3) ls (.ref (ad 17) :: st)) : G κ D LAY ad n1 n2 w pc ls (.ref (ad 16) :: st) := g_getr X (c := 16) (ci := 1) (k0 := 1) (N := 6) (C := RX1) (T := TX1) (c1 := 17) rfl rfl inX1 (by decide) rfl wf_X3_94 rfl hd k
theorem wf_X3_95 : Cond.fieldLink RX3 95 RX1 (TX1 2).2.1 (TX1 2).2.2.1 ∈ Wu := wq 153 (by decide +kernel) (by decide +kernel)
theorem gf_X3_95 {κ : KX} {D : CX} {ad : Nat → Nat} {n1 n2 : Nat} {w : Wd} {pc : Nat} {ls : List (Nat × Value)} {st : List Value} {cc : ByteArray} {rm : Room} {lc : Launch} {L : Nat} (X : gX κ D cc RX3 rm lc L) (hd : decode cc pc = .ok (.getfield 95, 3)) (k : G κ D LAY ad n1 n2 w (pc + 3) ls (.ref (ad 18) :: st)) : G κ D LAY ad n1 n2 w pc ls (.ref (ad 16) :: st) := g_getr X (c := 16) (ci := 1) (k0 := 2) (N := 6) (C := RX1) (T := TX1) (c1 := 18) rfl rfl inX1 (by decide) rfl wf_X3_95 rfl hd k
theorem wf_X3_98 : Cond.fieldLink RX3 98 RX1 (TX1 3).2.1 (TX1 3).2.2.1 ∈ Wu := wq 155 (by decide +kernel) (by decide +kernel)
theorem gf_X3_98 {κ : KX} {D : CX} {ad : Nat → Nat} {n1 n2 : Nat} {w : Wd} {pc : Nat} {ls : List (Nat × Value)} {st : List Value} {cc : ByteArray} {rm : Room} {lc : Launch} {L : Nat} (X : gX κ D cc RX3 rm lc L) (hd : decode cc pc = .ok (.getfield 98, 3)) (k : G κ D LAY ad n1 n2 w (pc + 3) ls (.ref (ad 19) :: st)) : G κ D LAY ad n1 n2 w pc ls (.ref (ad 16) :: st) := g_getr X (c := 16) (ci := 1) (k0 := 3) (N := 6) (C := RX1) (T := TX1) (c1 := 19) rfl rfl inX1 (by decide) rfl wf_X3_98 rfl hd k
theorem wf_X3_102 : Cond.fieldLink RX3 102 RX1 (TX1 4).2.1 (TX1 4).2.2.1 ∈ Wu := wq 157 (by decide +kernel) (by decide +kernel)
theorem gf_X3_102 {κ : KX} {D : CX} {ad : Nat → Nat} {n1 n2 : Nat} {w : Wd} {pc : Nat} {ls : List (Nat × Value)} {st : List Value} {cc : ByteArray} {rm : Room} {lc : Launch} {L : Nat} (X : gX κ D cc RX3 rm lc L) (hd : decode cc pc = .ok (.getfield 102, 3)) (k : G κ D LAY ad n1 n2 w (pc + 3) ls (.ref (ad 20) :: st)) : G κ D LAY ad n1 n2 w pc ls (.ref (ad 16) :: st) := g_getr X (c := 16) (ci := 1) (k0 := 4) (N := 6) (C := RX1) (T := TX1) (c1 := 20) rfl rfl inX1 (by decide) rfl wf_X3_102 rfl hd k
theorem wf_X3_105 : Cond.fieldLink RX3 105 RX1 (TX1 5).2.1 (TX1 5).2.2.1 ∈ Wu := wq 159 (by decide +kernel) (by decide +kernel)
theorem gf_X3_105 {κ : KX} {D : CX} {ad : Nat → Nat} {n1 n2 : Nat} {w : Wd} {pc : Nat} {ls : List (Nat × Value)} {st : List Value} {cc : ByteArray} {rm : Room} {lc : Launch} {L : Nat} (X : gX κ D cc RX3 rm lc L) (hd : decode cc pc = .ok (.getfield 105, 3)) (k : G κ D LAY ad n1 n2 w (pc + 3) ls (.ref (ad 21) :: st)) : G κ D LAY ad n1 n2 w pc ls (.ref (ad 16) :: st) := g_getr X (c := 16) (ci := 1) (k0 := 5) (N := 6) (C := RX1) (T := TX1) (c1 := 21) rfl rfl inX1 (by decide) rfl wf_X3_105 rfl hd k
theorem wf_X3_111 : Cond.fieldLink RX3 111 RX0 (TX0 8).2.1 (TX0 8).2.2.1 ∈ Wu := wq 114 (by decide +kernel) (by decide +kernel)
theorem gf_X3_111 {κ : KX} {D : CX} {ad : Nat → Nat} {n1 n2 : Nat} {w : Wd} {pc : Nat} {ls : List (Nat × Value)} {st : List Value} {cc : ByteArray} {rm : Room} {lc : Launch} {L : Nat} (X : gX κ D cc RX3 rm lc L) (hd : decode cc pc = .ok (.getfield 111, 3)) (k : G κ D LAY ad n1 n2 w (pc + 3) ls (.ref (ad 13) :: st)) : G κ D LAY ad n1 n2 w pc ls (.ref (ad 5) :: st) := g_getr X (c := 5) (ci := 0) (k0 := 8) (N := 11) (C := RX0) (T := TX0) (c1 := 13) rfl rfl inX0 (by decide) rfl wf_X3_111 rfl hd k
theorem wf_X3_142 : Cond.fieldLink RX3 142 RX0 (TX0 9).2.1 (TX0 9).2.2.1 ∈ Wu := wq 116 (by decide +kernel) (by decide +kernel)
theorem gf_X3_142 {κ : KX} {D : CX} {ad : Nat → Nat} {n1 n2 : Nat} {w : Wd} {pc : Nat} {ls : List (Nat × Value)} {st : List Value} {cc : ByteArray} {rm : Room} {lc : Launch} {L : Nat} (X : gX κ D cc RX3 rm lc L) (hd : decode cc pc = .ok (.getfield 142, 3)) (k : G κ D LAY ad n1 n2 w (pc + 3) ls (.ref (ad 14) :: st)) : G κ D LAY ad n1 n2 w pc ls (.ref (ad 5) :: st) := g_getr X (c := 5) (ci := 0) (k0 := 9) (N := 11) (C := RX0) (T := TX0) (c1 := 14) rfl rfl inX0 (by decide) rfl wf_X3_142 rfl hd k
theorem wf_X3_182 : Cond.fieldLink RX3 182 RX0 (TX0 10).2.1 (TX0 10).2.2.1 ∈ Wu := wq 118 (by decide +kernel) (by decide +kernel)
theorem gf_X3_182 {κ : KX} {D : CX} {ad : Nat → Nat} {n1 n2 : Nat} {w : Wd} {pc : Nat} {ls : List (Nat × Value)} {st : List Value} {cc : ByteArray} {rm : Room} {lc : Launch} {L : Nat} (X : gX κ D cc RX3 rm lc L) (hd : decode cc pc = .ok (.getfield 182, 3)) (k : G κ D LAY ad n1 n2 w (pc + 3) ls (.ref (ad 15) :: st)) : G κ D LAY ad n1 n2 w pc ls (.ref (ad 5) :: st) := g_getr X (c := 5) (ci := 0) (k0 := 10) (N := 11) (C := RX0) (T := TX0) (c1 := 15) rfl rfl inX0 (by decide) rfl wf_X3_182 rfl hd k
theorem wf_X0_9 : Cond.fieldLink RX0 9 RX0 (TX0 0).2.1 (TX0 0).2.2.1 ∈ Wu := wq 97 (by decide +kernel) (by decide +kernel)
theorem gf_X0_9 {κ : KX} {D : CX} {ad : Nat → Nat} {n1 n2 : Nat} {w : Wd} {pc : Nat} {ls : List (Nat × Value)} {st : List Value} {cc : ByteArray} {rm : Room} {lc : Launch} {L : Nat} (X : gX κ D cc RX0 rm lc L) (hd : decode cc pc = .ok (.getfield 9, 3)) (k : G κ D LAY ad n1 n2 w (pc + 3) ls (iv (w 5 0) :: st)) : G κ D LAY ad n1 n2 w pc ls (.ref (ad 5) :: st) := g_geti X (c := 5) (ci := 0) (k0 := 0) (N := 11) (C := RX0) (T := TX0) rfl rfl inX0 (by decide) rfl wf_X0_9 rfl hd k
theorem gp_X0_9 {κ : KX} {D : CX} {ad : Nat → Nat} {n1 n2 : Nat} {w : Wd} {pc : Nat} {ls : List (Nat × Value)} {st : List Value} {cc : ByteArray} {rm : Room} {lc : Launch} {L : Nat} (X : gX κ D cc RX0 rm lc L) {x : Int} (hd : decode cc pc = .ok (.putfield 9, 3)) (k : G κ D LAY ad n1 n2 (wset w 5 0 x) (pc + 3) ls st) : G κ D LAY ad n1 n2 w pc ls (iv x :: .ref (ad 5) :: st) := g_puti X (c := 5) (ci := 0) (k0 := 0) (N := 11) (C := RX0) (T := TX0) tyX0 tyX0_ok nmX0 rfl rfl inX0 (by decide) rfl wf_X0_9 rfl rfl (by decide +kernel) hd k
theorem wf_X0_15 : Cond.fieldLink RX0 15 RX0 (TX0 1).2.1 (TX0 1).2.2.1 ∈ Wu := wq 99 (by decide +kernel) (by decide +kernel)
theorem gf_X0_15 {κ : KX} {D : CX} {ad : Nat → Nat} {n1 n2 : Nat} {w : Wd} {pc : Nat} {ls : List (Nat × Value)} {st : List Value} {cc : ByteArray} {rm : Room} {lc : Launch} {L : Nat} (X : gX κ D cc RX0 rm lc L) (hd : decode cc pc = .ok (.getfield 15, 3)) (k : G κ D LAY ad n1 n2 w (pc + 3) ls (.ref (ad 6) :: st)) : G κ D LAY ad n1 n2 w pc ls (.ref (ad 5) :: st) := g_getr X (c := 5) (ci := 0) (k0 := 1) (N := 11) (C := RX0) (T := TX0) (c1 := 6) rfl rfl inX0 (by decide) rfl wf_X0_15 rfl hd k
theorem wf_X0_19 : Cond.fieldLink RX0 19 RX0 (TX0 2).2.1 (TX0 2).2.2.1 ∈ Wu := wq 101 (by decide +kernel) (by decide +kernel)
theorem gf_X0_19 {κ : KX} {D : CX} {ad : Nat → Nat} {n1 n2 : Nat} {w : Wd} {pc : Nat} {ls : List (Nat × Value)} {st : List Value} {cc : ByteArray} {rm : Room} {lc : Launch} {L : Nat} (X : gX κ D cc RX0 rm lc L) (hd : decode cc pc = .ok (.getfield 19, 3)) (k : G κ D LAY ad n1 n2 w (pc + 3) ls (.ref (ad 7) :: st)) : G κ D LAY ad n1 n2 w pc ls (.ref (ad 5) :: st) := g_getr X (c := 5) (ci := 0) (k0 := 2) (N := 11) (C := RX0) (T := TX0) (c1 := 7) rfl rfl inX0 (by decide) rfl wf_X0_19 rfl hd k
theorem wf_X0_22 : Cond.fieldLink RX0 22 RX0 (TX0 3).2.1 (TX0 3).2.2.1 ∈ Wu := wq 103 (by decide +kernel) (by decide +kernel)
theorem gf_X0_22 {κ : KX} {D : CX} {ad : Nat → Nat} {n1 n2 : Nat} {w : Wd} {pc : Nat} {ls : List (Nat × Value)} {st : List Value} {cc : ByteArray} {rm : Room} {lc : Launch} {L : Nat} (X : gX κ D cc RX0 rm lc L) (hd : decode cc pc = .ok (.getfield 22, 3)) (k : G κ D LAY ad n1 n2 w (pc + 3) ls (.ref (ad 8) :: st)) : G κ D LAY ad n1 n2 w pc ls (.ref (ad 5) :: st) := g_getr X (c := 5) (ci := 0) (k0 := 3) (N := 11) (C := RX0) (T := TX0) (c1 := 8) rfl rfl inX0 (by decide) rfl wf_X0_22 rfl hd k
theorem wf_X0_25 : Cond.fieldLink RX0 25 RX0 (TX0 4).2.1 (TX0 4).2.2.1 ∈ Wu := wq 105 (by decide +kernel) (by decide +kernel)
theorem gf_X0_25 {κ : KX} {D : CX} {ad : Nat → Nat} {n1 n2 : Nat} {w : Wd} {pc : Nat} {ls : List (Nat × Value)} {st : List Value} {cc : ByteArray} {rm : Room} {lc : Launch} {L : Nat} (X : gX κ D cc RX0 rm lc L) (hd : decode cc pc = .ok (.getfield 25, 3)) (k : G κ D LAY ad n1 n2 w (pc + 3) ls (.ref (ad 9) :: st)) : G κ D LAY ad n1 n2 w pc ls (.ref (ad 5) :: st) := g_getr X (c := 5) (ci := 0) (k0 := 4) (N := 11) (C := RX0) (T := TX0) (c1 := 9) rfl rfl inX0 (by decide) rfl wf_X0_25 rfl hd k
theorem wf_X0_28 : Cond.fieldLink RX0 28 RX0 (TX0 5).2.1 (TX0 5).2.2.1 ∈ Wu := wq 107 (by decide +kernel) (by decide +kernel)
theorem gf_X0_28 {κ : KX} {D : CX} {ad : Nat → Nat} {n1 n2 : Nat} {w : Wd} {pc : Nat} {ls : List (Nat × Value)} {st : List Value} {cc : ByteArray} {rm : Room} {lc : Launch} {L : Nat} (X : gX κ D cc RX0 rm lc L) (hd : decode cc pc = .ok (.getfield 28, 3)) (k : G κ D LAY ad n1 n2 w (pc + 3) ls (.ref (ad 10) :: st)) : G κ D LAY ad n1 n2 w pc ls (.ref (ad 5) :: st) := g_getr X (c := 5) (ci := 0) (k0 := 5) (N := 11) (C := RX0) (T := TX0) (c1 := 10) rfl rfl inX0 (by decide) rfl wf_X0_28 rfl hd k
theorem wf_X0_31 : Cond.fieldLink RX0 31 RX0 (TX0 6).2.1 (TX0 6).2.2.1 ∈ Wu := wq 109 (by decide +kernel) (by decide +kernel)
theorem gf_X0_31 {κ : KX} {D : CX} {ad : Nat → Nat} {n1 n2 : Nat} {w : Wd} {pc : Nat} {ls : List (Nat × Value)} {st : List Value} {cc : ByteArray} {rm : Room} {lc : Launch} {L : Nat} (X : gX κ D cc RX0 rm lc L) (hd : decode cc pc = .ok (.getfield 31, 3)) (k : G κ D LAY ad n1 n2 w (pc + 3) ls (.ref (ad 11) :: st)) : G κ D LAY ad n1 n2 w pc ls (.ref (ad 5) :: st) := g_getr X (c := 5) (ci := 0) (k0 := 6) (N := 11) (C := RX0) (T := TX0) (c1 := 11) rfl rfl inX0 (by decide) rfl wf_X0_31 rfl hd k
theorem wf_X0_34 : Cond.fieldLink RX0 34 RX0 (TX0 7).2.1 (TX0 7).2.2.1 ∈ Wu := wq 111 (by decide +kernel) (by decide +kernel)
theorem gf_X0_34 {κ : KX} {D : CX} {ad : Nat → Nat} {n1 n2 : Nat} {w : Wd} {pc : Nat} {ls : List (Nat × Value)} {st : List Value} {cc : ByteArray} {rm : Room} {lc : Launch} {L : Nat} (X : gX κ D cc RX0 rm lc L) (hd : decode cc pc = .ok (.getfield 34, 3)) (k : G κ D LAY ad n1 n2 w (pc + 3) ls (.ref (ad 12) :: st)) : G κ D LAY ad n1 n2 w pc ls (.ref (ad 5) :: st) := g_getr X (c := 5) (ci := 0) (k0 := 7) (N := 11) (C := RX0) (T := TX0) (c1 := 12) rfl rfl inX0 (by decide) rfl wf_X0_34 rfl hd k
theorem wf_X0_37 : Cond.fieldLink RX0 37 RX0 (TX0 8).2.1 (TX0 8).2.2.1 ∈ Wu := wq 113 (by decide +kernel) (by decide +kernel)
theorem gf_X0_37 {κ : KX} {D : CX} {ad : Nat → Nat} {n1 n2 : Nat} {w : Wd} {pc : Nat} {ls : List (Nat × Value)} {st : List Value} {cc : ByteArray} {rm : Room} {lc : Launch} {L : Nat} (X : gX κ D cc RX0 rm lc L) (hd : decode cc pc = .ok (.getfield 37, 3)) (k : G κ D LAY ad n1 n2 w (pc + 3) ls (.ref (ad 13) :: st)) : G κ D LAY ad n1 n2 w pc ls (.ref (ad 5) :: st) := g_getr X (c := 5) (ci := 0) (k0 := 8) (N := 11) (C := RX0) (T := TX0) (c1 := 13) rfl rfl inX0 (by decide) rfl wf_X0_37 rfl hd k
theorem wf_X0_40 : Cond.fieldLink RX0 40 RX0 (TX0 9).2.1 (TX0 9).2.2.1 ∈ Wu := wq 115 (by decide +kernel) (by decide +kernel)
theorem gf_X0_40 {κ : KX} {D : CX} {ad : Nat → Nat} {n1 n2 : Nat} {w : Wd} {pc : Nat} {ls : List (Nat × Value)} {st : List Value} {cc : ByteArray} {rm : Room} {lc : Launch} {L : Nat} (X : gX κ D cc RX0 rm lc L) (hd : decode cc pc = .ok (.getfield 40, 3)) (k : G κ D LAY ad n1 n2 w (pc + 3) ls (.ref (ad 14) :: st)) : G κ D LAY ad n1 n2 w pc ls (.ref (ad 5) :: st) := g_getr X (c := 5) (ci := 0) (k0 := 9) (N := 11) (C := RX0) (T := TX0) (c1 := 14) rfl rfl inX0 (by decide) rfl wf_X0_40 rfl hd k
theorem wf_X0_43 : Cond.fieldLink RX0 43 RX0 (TX0 10).2.1 (TX0 10).2.2.1 ∈ Wu := wq 117 (by decide +kernel) (by decide +kernel)
theorem gf_X0_43 {κ : KX} {D : CX} {ad : Nat → Nat} {n1 n2 : Nat} {w : Wd} {pc : Nat} {ls : List (Nat × Value)} {st : List Value} {cc : ByteArray} {rm : Room} {lc : Launch} {L : Nat} (X : gX κ D cc RX0 rm lc L) (hd : decode cc pc = .ok (.getfield 43, 3)) (k : G κ D LAY ad n1 n2 w (pc + 3) ls (.ref (ad 15) :: st)) : G κ D LAY ad n1 n2 w pc ls (.ref (ad 5) :: st) := g_getr X (c := 5) (ci := 0) (k0 := 10) (N := 11) (C := RX0) (T := TX0) (c1 := 15) rfl rfl inX0 (by decide) rfl wf_X0_43 rfl hd k
theorem wf_X1_9 : Cond.fieldLink RX1 9 RX1 (TX1 0).2.1 (TX1 0).2.2.1 ∈ Wu := wq 148 (by decide +kernel) (by decide +kernel)
theorem gf_X1_9 {κ : KX} {D : CX} {ad : Nat → Nat} {n1 n2 : Nat} {w : Wd} {pc : Nat} {ls : List (Nat × Value)} {st : List Value} {cc : ByteArray} {rm : Room} {lc : Launch} {L : Nat} (X : gX κ D cc RX1 rm lc L) (hd : decode cc pc = .ok (.getfield 9, 3)) (k : G κ D LAY ad n1 n2 w (pc + 3) ls (iv (w 16 0) :: st)) : G κ D LAY ad n1 n2 w pc ls (.ref (ad 16) :: st) := g_geti X (c := 16) (ci := 1) (k0 := 0) (N := 6) (C := RX1) (T := TX1) rfl rfl inX1 (by decide) rfl wf_X1_9 rfl hd k
theorem gp_X1_9 {κ : KX} {D : CX} {ad : Nat → Nat} {n1 n2 : Nat} {w : Wd} {pc : Nat} {ls : List (Nat × Value)} {st : List Value} {cc : ByteArray} {rm : Room} {lc : Launch} {L : Nat} (X : gX κ D cc RX1 rm lc L) {x : Int} (hd : decode cc pc = .ok (.putfield 9, 3)) (k : G κ D LAY ad n1 n2 (wset w 16 0 x) (pc + 3) ls st) : G κ D LAY ad n1 n2 w pc ls (iv x :: .ref (ad 16) :: st) := g_puti X (c := 16) (ci := 1) (k0 := 0) (N := 6) (C := RX1) (T := TX1) tyX1 tyX1_ok nmX1 rfl rfl inX1 (by decide) rfl wf_X1_9 rfl rfl (by decide +kernel) hd k
theorem wf_X1_15 : Cond.fieldLink RX1 15 RX1 (TX1 1).2.1 (TX1 1).2.2.1 ∈ Wu := wq 150 (by decide +kernel) (by decide +kernel)
theorem gf_X1_15 {κ : KX} {D : CX} {ad : Nat → Nat} {n1 n2 : Nat} {w : Wd} {pc : Nat} {ls : List (Nat × Value)} {st : List Value} {cc : ByteArray} {rm : Room} {lc : Launch} {L : Nat} (X : gX κ D cc RX1 rm lc L) (hd : decode cc pc = .ok (.getfield 15, 3)) (k : G κ D LAY ad n1 n2 w (pc + 3) ls (.ref (ad 17) :: st)) : G κ D LAY ad n1 n2 w pc ls (.ref (ad 16) :: st) := g_getr X (c := 16) (ci := 1) (k0 := 1) (N := 6) (C := RX1) (T := TX1) (c1 := 17) rfl rfl inX1 (by decide) rfl wf_X1_15 rfl hd k
theorem wf_X1_19 : Cond.fieldLink RX1 19 RX1 (TX1 2).2.1 (TX1 2).2.2.1 ∈ Wu := wq 152 (by decide +kernel) (by decide +kernel)
theorem gf_X1_19 {κ : KX} {D : CX} {ad : Nat → Nat} {n1 n2 : Nat} {w : Wd} {pc : Nat} {ls : List (Nat × Value)} {st : List Value} {cc : ByteArray} {rm : Room} {lc : Launch} {L : Nat} (X : gX κ D cc RX1 rm lc L) (hd : decode cc pc = .ok (.getfield 19, 3)) (k : G κ D LAY ad n1 n2 w (pc + 3) ls (.ref (ad 18) :: st)) : G κ D LAY ad n1 n2 w pc ls (.ref (ad 16) :: st) := g_getr X (c := 16) (ci := 1) (k0 := 2) (N := 6) (C := RX1) (T := TX1) (c1 := 18) rfl rfl inX1 (by decide) rfl wf_X1_19 rfl hd k
theorem wf_X1_22 : Cond.fieldLink RX1 22 RX1 (TX1 3).2.1 (TX1 3).2.2.1 ∈ Wu := wq 154 (by decide +kernel) (by decide +kernel)
theorem gf_X1_22 {κ : KX} {D : CX} {ad : Nat → Nat} {n1 n2 : Nat} {w : Wd} {pc : Nat} {ls : List (Nat × Value)} {st : List Value} {cc : ByteArray} {rm : Room} {lc : Launch} {L : Nat} (X : gX κ D cc RX1 rm lc L) (hd : decode cc pc = .ok (.getfield 22, 3)) (k : G κ D LAY ad n1 n2 w (pc + 3) ls (.ref (ad 19) :: st)) : G κ D LAY ad n1 n2 w pc ls (.ref (ad 16) :: st) := g_getr X (c := 16) (ci := 1) (k0 := 3) (N := 6) (C := RX1) (T := TX1) (c1 := 19) rfl rfl inX1 (by decide) rfl wf_X1_22 rfl hd k
theorem wf_X1_26 : Cond.fieldLink RX1 26 RX1 (TX1 4).2.1 (TX1 4).2.2.1 ∈ Wu := wq 156 (by decide +kernel) (by decide +kernel)
theorem gf_X1_26 {κ : KX} {D : CX} {ad : Nat → Nat} {n1 n2 : Nat} {w : Wd} {pc : Nat} {ls : List (Nat × Value)} {st : List Value} {cc : ByteArray} {rm : Room} {lc : Launch} {L : Nat} (X : gX κ D cc RX1 rm lc L) (hd : decode cc pc = .ok (.getfield 26, 3)) (k : G κ D LAY ad n1 n2 w (pc + 3) ls (.ref (ad 20) :: st)) : G κ D LAY ad n1 n2 w pc ls (.ref (ad 16) :: st) := g_getr X (c := 16) (ci := 1) (k0 := 4) (N := 6) (C := RX1) (T := TX1) (c1 := 20) rfl rfl inX1 (by decide) rfl wf_X1_26 rfl hd k
theorem wf_X1_29 : Cond.fieldLink RX1 29 RX1 (TX1 5).2.1 (TX1 5).2.2.1 ∈ Wu := wq 158 (by decide +kernel) (by decide +kernel)
theorem gf_X1_29 {κ : KX} {D : CX} {ad : Nat → Nat} {n1 n2 : Nat} {w : Wd} {pc : Nat} {ls : List (Nat × Value)} {st : List Value} {cc : ByteArray} {rm : Room} {lc : Launch} {L : Nat} (X : gX κ D cc RX1 rm lc L) (hd : decode cc pc = .ok (.getfield 29, 3)) (k : G κ D LAY ad n1 n2 w (pc + 3) ls (.ref (ad 21) :: st)) : G κ D LAY ad n1 n2 w pc ls (.ref (ad 16) :: st) := g_getr X (c := 16) (ci := 1) (k0 := 5) (N := 6) (C := RX1) (T := TX1) (c1 := 21) rfl rfl inX1 (by decide) rfl wf_X1_29 rfl hd k
theorem wf_X2_9 : Cond.fieldLink RX2 9 RX2 (TX2 0).2.1 (TX2 0).2.2.1 ∈ Wu := wq 76 (by decide +kernel) (by decide +kernel)
theorem gf_X2_9 {κ : KX} {D : CX} {ad : Nat → Nat} {n1 n2 : Nat} {w : Wd} {pc : Nat} {ls : List (Nat × Value)} {st : List Value} {cc : ByteArray} {rm : Room} {lc : Launch} {L : Nat} (X : gX κ D cc RX2 rm lc L) (hd : decode cc pc = .ok (.getfield 9, 3)) (k : G κ D LAY ad n1 n2 w (pc + 3) ls (.ref (ad 2) :: st)) : G κ D LAY ad n1 n2 w pc ls (.ref (ad 1) :: st) := g_getr X (c := 1) (ci := 2) (k0 := 0) (N := 3) (C := RX2) (T := TX2) (c1 := 2) rfl rfl inX2 (by decide) rfl wf_X2_9 rfl hd k
theorem wf_X2_15 : Cond.fieldLink RX2 15 RX2 (TX2 1).2.1 (TX2 1).2.2.1 ∈ Wu := wq 78 (by decide +kernel) (by decide +kernel)
theorem gf_X2_15 {κ : KX} {D : CX} {ad : Nat → Nat} {n1 n2 : Nat} {w : Wd} {pc : Nat} {ls : List (Nat × Value)} {st : List Value} {cc : ByteArray} {rm : Room} {lc : Launch} {L : Nat} (X : gX κ D cc RX2 rm lc L) (hd : decode cc pc = .ok (.getfield 15, 3)) (k : G κ D LAY ad n1 n2 w (pc + 3) ls (.ref (ad 3) :: st)) : G κ D LAY ad n1 n2 w pc ls (.ref (ad 1) :: st) := g_getr X (c := 1) (ci := 2) (k0 := 1) (N := 3) (C := RX2) (T := TX2) (c1 := 3) rfl rfl inX2 (by decide) rfl wf_X2_15 rfl hd k
theorem wf_X2_18 : Cond.fieldLink RX2 18 RX2 (TX2 2).2.1 (TX2 2).2.2.1 ∈ Wu := wq 80 (by decide +kernel) (by decide +kernel)
theorem gf_X2_18 {κ : KX} {D : CX} {ad : Nat → Nat} {n1 n2 : Nat} {w : Wd} {pc : Nat} {ls : List (Nat × Value)} {st : List Value} {cc : ByteArray} {rm : Room} {lc : Launch} {L : Nat} (X : gX κ D cc RX2 rm lc L) (hd : decode cc pc = .ok (.getfield 18, 3)) (k : G κ D LAY ad n1 n2 w (pc + 3) ls (.ref (ad 4) :: st)) : G κ D LAY ad n1 n2 w pc ls (.ref (ad 1) :: st) := g_getr X (c := 1) (ci := 2) (k0 := 2) (N := 3) (C := RX2) (T := TX2) (c1 := 4) rfl rfl inX2 (by decide) rfl wf_X2_18 rfl hd k
theorem wf_X4_7 : Cond.fieldLink RX4 7 RX4 (TX4 0).2.1 (TX4 0).2.2.1 ∈ Wu := wq 545 (by decide +kernel) (by decide +kernel)
theorem gf_X4_7 {κ : KX} {D : CX} {ad : Nat → Nat} {n1 n2 : Nat} {w : Wd} {pc : Nat} {ls : List (Nat × Value)} {st : List Value} {cc : ByteArray} {rm : Room} {lc : Launch} {L : Nat} (X : gX κ D cc RX4 rm lc L) (hd : decode cc pc = .ok (.getfield 7, 3)) (k : G κ D LAY ad n1 n2 w (pc + 3) ls (.ref (ad 27) :: st)) : G κ D LAY ad n1 n2 w pc ls (.ref (ad 26) :: st) := g_getr X (c := 26) (ci := 4) (k0 := 0) (N := 16) (C := RX4) (T := TX4) (c1 := 27) rfl rfl inX4 (by decide) rfl wf_X4_7 rfl hd k
theorem wf_X4_13 : Cond.fieldLink RX4 13 RX4 (TX4 1).2.1 (TX4 1).2.2.1 ∈ Wu := wq 546 (by decide +kernel) (by decide +kernel)
theorem gf_X4_13 {κ : KX} {D : CX} {ad : Nat → Nat} {n1 n2 : Nat} {w : Wd} {pc : Nat} {ls : List (Nat × Value)} {st : List Value} {cc : ByteArray} {rm : Room} {lc : Launch} {L : Nat} (X : gX κ D cc RX4 rm lc L) (hd : decode cc pc = .ok (.getfield 13, 3)) (k : G κ D LAY ad n1 n2 w (pc + 3) ls (.ref (ad 28) :: st)) : G κ D LAY ad n1 n2 w pc ls (.ref (ad 26) :: st) := g_getr X (c := 26) (ci := 4) (k0 := 1) (N := 16) (C := RX4) (T := TX4) (c1 := 28) rfl rfl inX4 (by decide) rfl wf_X4_13 rfl hd k
theorem wf_X4_16 : Cond.fieldLink RX4 16 RX4 (TX4 2).2.1 (TX4 2).2.2.1 ∈ Wu := wq 547 (by decide +kernel) (by decide +kernel)
theorem gf_X4_16 {κ : KX} {D : CX} {ad : Nat → Nat} {n1 n2 : Nat} {w : Wd} {pc : Nat} {ls : List (Nat × Value)} {st : List Value} {cc : ByteArray} {rm : Room} {lc : Launch} {L : Nat} (X : gX κ D cc RX4 rm lc L) (hd : decode cc pc = .ok (.getfield 16, 3)) (k : G κ D LAY ad n1 n2 w (pc + 3) ls (.ref (ad 29) :: st)) : G κ D LAY ad n1 n2 w pc ls (.ref (ad 26) :: st) := g_getr X (c := 26) (ci := 4) (k0 := 2) (N := 16) (C := RX4) (T := TX4) (c1 := 29) rfl rfl inX4 (by decide) rfl wf_X4_16 rfl hd k
theorem wf_X4_19 : Cond.fieldLink RX4 19 RX4 (TX4 3).2.1 (TX4 3).2.2.1 ∈ Wu := wq 548 (by decide +kernel) (by decide +kernel)
theorem gf_X4_19 {κ : KX} {D : CX} {ad : Nat → Nat} {n1 n2 : Nat} {w : Wd} {pc : Nat} {ls : List (Nat × Value)} {st : List Value} {cc : ByteArray} {rm : Room} {lc : Launch} {L : Nat} (X : gX κ D cc RX4 rm lc L) (hd : decode cc pc = .ok (.getfield 19, 3)) (k : G κ D LAY ad n1 n2 w (pc + 3) ls (.ref (ad 30) :: st)) : G κ D LAY ad n1 n2 w pc ls (.ref (ad 26) :: st) := g_getr X (c := 26) (ci := 4) (k0 := 3) (N := 16) (C := RX4) (T := TX4) (c1 := 30) rfl rfl inX4 (by decide) rfl wf_X4_19 rfl hd k
theorem wf_X4_22 : Cond.fieldLink RX4 22 RX4 (TX4 5).2.1 (TX4 5).2.2.1 ∈ Wu := wq 550 (by decide +kernel) (by decide +kernel)
theorem gf_X4_22 {κ : KX} {D : CX} {ad : Nat → Nat} {n1 n2 : Nat} {w : Wd} {pc : Nat} {ls : List (Nat × Value)} {st : List Value} {cc : ByteArray} {rm : Room} {lc : Launch} {L : Nat} (X : gX κ D cc RX4 rm lc L) (hd : decode cc pc = .ok (.getfield 22, 3)) (k : G κ D LAY ad n1 n2 w (pc + 3) ls (.ref (ad 31) :: st)) : G κ D LAY ad n1 n2 w pc ls (.ref (ad 26) :: st) := g_getr X (c := 26) (ci := 4) (k0 := 5) (N := 16) (C := RX4) (T := TX4) (c1 := 31) rfl rfl inX4 (by decide) rfl wf_X4_22 rfl hd k
theorem wf_X4_25 : Cond.fieldLink RX4 25 RX4 (TX4 7).2.1 (TX4 7).2.2.1 ∈ Wu := wq 552 (by decide +kernel) (by decide +kernel)
theorem gf_X4_25 {κ : KX} {D : CX} {ad : Nat → Nat} {n1 n2 : Nat} {w : Wd} {pc : Nat} {ls : List (Nat × Value)} {st : List Value} {cc : ByteArray} {rm : Room} {lc : Launch} {L : Nat} (X : gX κ D cc RX4 rm lc L) (hd : decode cc pc = .ok (.getfield 25, 3)) (k : G κ D LAY ad n1 n2 w (pc + 3) ls (.ref (ad 32) :: st)) : G κ D LAY ad n1 n2 w pc ls (.ref (ad 26) :: st) := g_getr X (c := 26) (ci := 4) (k0 := 7) (N := 16) (C := RX4) (T := TX4) (c1 := 32) rfl rfl inX4 (by decide) rfl wf_X4_25 rfl hd k
theorem wf_X4_29 : Cond.fieldLink RX4 29 RX4 (TX4 8).2.1 (TX4 8).2.2.1 ∈ Wu := wq 553 (by decide +kernel) (by decide +kernel)
theorem gf_X4_29 {κ : KX} {D : CX} {ad : Nat → Nat} {n1 n2 : Nat} {w : Wd} {pc : Nat} {ls : List (Nat × Value)} {st : List Value} {cc : ByteArray} {rm : Room} {lc : Launch} {L : Nat} (X : gX κ D cc RX4 rm lc L) (hd : decode cc pc = .ok (.getfield 29, 3)) (k : G κ D LAY ad n1 n2 w (pc + 3) ls (.ref (ad 33) :: st)) : G κ D LAY ad n1 n2 w pc ls (.ref (ad 26) :: st) := g_getr X (c := 26) (ci := 4) (k0 := 8) (N := 16) (C := RX4) (T := TX4) (c1 := 33) rfl rfl inX4 (by decide) rfl wf_X4_29 rfl hd k
theorem wf_X4_32 : Cond.fieldLink RX4 32 RX4 (TX4 9).2.1 (TX4 9).2.2.1 ∈ Wu := wq 554 (by decide +kernel) (by decide +kernel)
theorem gf_X4_32 {κ : KX} {D : CX} {ad : Nat → Nat} {n1 n2 : Nat} {w : Wd} {pc : Nat} {ls : List (Nat × Value)} {st : List Value} {cc : ByteArray} {rm : Room} {lc : Launch} {L : Nat} (X : gX κ D cc RX4 rm lc L) (hd : decode cc pc = .ok (.getfield 32, 3)) (k : G κ D LAY ad n1 n2 w (pc + 3) ls (.ref (ad 34) :: st)) : G κ D LAY ad n1 n2 w pc ls (.ref (ad 26) :: st) := g_getr X (c := 26) (ci := 4) (k0 := 9) (N := 16) (C := RX4) (T := TX4) (c1 := 34) rfl rfl inX4 (by decide) rfl wf_X4_32 rfl hd k
theorem wf_X4_35 : Cond.fieldLink RX4 35 RX4 (TX4 11).2.1 (TX4 11).2.2.1 ∈ Wu := wq 556 (by decide +kernel) (by decide +kernel)
theorem gf_X4_35 {κ : KX} {D : CX} {ad : Nat → Nat} {n1 n2 : Nat} {w : Wd} {pc : Nat} {ls : List (Nat × Value)} {st : List Value} {cc : ByteArray} {rm : Room} {lc : Launch} {L : Nat} (X : gX κ D cc RX4 rm lc L) (hd : decode cc pc = .ok (.getfield 35, 3)) (k : G κ D LAY ad n1 n2 w (pc + 3) ls (.ref (ad 35) :: st)) : G κ D LAY ad n1 n2 w pc ls (.ref (ad 26) :: st) := g_getr X (c := 26) (ci := 4) (k0 := 11) (N := 16) (C := RX4) (T := TX4) (c1 := 35) rfl rfl inX4 (by decide) rfl wf_X4_35 rfl hd k
theorem wf_X4_38 : Cond.fieldLink RX4 38 RX4 (TX4 12).2.1 (TX4 12).2.2.1 ∈ Wu := wq 557 (by decide +kernel) (by decide +kernel)
theorem gf_X4_38 {κ : KX} {D : CX} {ad : Nat → Nat} {n1 n2 : Nat} {w : Wd} {pc : Nat} {ls : List (Nat × Value)} {st : List Value} {cc : ByteArray} {rm : Room} {lc : Launch} {L : Nat} (X : gX κ D cc RX4 rm lc L) (hd : decode cc pc = .ok (.getfield 38, 3)) (k : G κ D LAY ad n1 n2 w (pc + 3) ls (.ref (ad 36) :: st)) : G κ D LAY ad n1 n2 w pc ls (.ref (ad 26) :: st) := g_getr X (c := 26) (ci := 4) (k0 := 12) (N := 16) (C := RX4) (T := TX4) (c1 := 36) rfl rfl inX4 (by decide) rfl wf_X4_38 rfl hd k
theorem wf_X4_41 : Cond.fieldLink RX4 41 RX4 (TX4 13).2.1 (TX4 13).2.2.1 ∈ Wu := wq 558 (by decide +kernel) (by decide +kernel)
theorem gf_X4_41 {κ : KX} {D : CX} {ad : Nat → Nat} {n1 n2 : Nat} {w : Wd} {pc : Nat} {ls : List (Nat × Value)} {st : List Value} {cc : ByteArray} {rm : Room} {lc : Launch} {L : Nat} (X : gX κ D cc RX4 rm lc L) (hd : decode cc pc = .ok (.getfield 41, 3)) (k : G κ D LAY ad n1 n2 w (pc + 3) ls (.ref (ad 37) :: st)) : G κ D LAY ad n1 n2 w pc ls (.ref (ad 26) :: st) := g_getr X (c := 26) (ci := 4) (k0 := 13) (N := 16) (C := RX4) (T := TX4) (c1 := 37) rfl rfl inX4 (by decide) rfl wf_X4_41 rfl hd k
theorem wf_X4_44 : Cond.fieldLink RX4 44 RX4 (TX4 14).2.1 (TX4 14).2.2.1 ∈ Wu := wq 559 (by decide +kernel) (by decide +kernel)
theorem gf_X4_44 {κ : KX} {D : CX} {ad : Nat → Nat} {n1 n2 : Nat} {w : Wd} {pc : Nat} {ls : List (Nat × Value)} {st : List Value} {cc : ByteArray} {rm : Room} {lc : Launch} {L : Nat} (X : gX κ D cc RX4 rm lc L) (hd : decode cc pc = .ok (.getfield 44, 3)) (k : G κ D LAY ad n1 n2 w (pc + 3) ls (.ref (ad 38) :: st)) : G κ D LAY ad n1 n2 w pc ls (.ref (ad 26) :: st) := g_getr X (c := 26) (ci := 4) (k0 := 14) (N := 16) (C := RX4) (T := TX4) (c1 := 38) rfl rfl inX4 (by decide) rfl wf_X4_44 rfl hd k
theorem wf_X4_47 : Cond.fieldLink RX4 47 RX4 (TX4 15).2.1 (TX4 15).2.2.1 ∈ Wu := wq 560 (by decide +kernel) (by decide +kernel)
theorem gf_X4_47 {κ : KX} {D : CX} {ad : Nat → Nat} {n1 n2 : Nat} {w : Wd} {pc : Nat} {ls : List (Nat × Value)} {st : List Value} {cc : ByteArray} {rm : Room} {lc : Launch} {L : Nat} (X : gX κ D cc RX4 rm lc L) (hd : decode cc pc = .ok (.getfield 47, 3)) (k : G κ D LAY ad n1 n2 w (pc + 3) ls (.ref (ad 39) :: st)) : G κ D LAY ad n1 n2 w pc ls (.ref (ad 26) :: st) := g_getr X (c := 26) (ci := 4) (k0 := 15) (N := 16) (C := RX4) (T := TX4) (c1 := 39) rfl rfl inX4 (by decide) rfl wf_X4_47 rfl hd k
theorem wf_X4_50 : Cond.fieldLink RX4 50 RX4 (TX4 10).2.1 (TX4 10).2.2.1 ∈ Wu := wq 555 (by decide +kernel) (by decide +kernel)
theorem gf_X4_50 {κ : KX} {D : CX} {ad : Nat → Nat} {n1 n2 : Nat} {w : Wd} {pc : Nat} {ls : List (Nat × Value)} {st : List Value} {cc : ByteArray} {rm : Room} {lc : Launch} {L : Nat} (X : gX κ D cc RX4 rm lc L) (hd : decode cc pc = .ok (.getfield 50, 3)) (k : G κ D LAY ad n1 n2 w (pc + 3) ls (iv (w 26 10) :: st)) : G κ D LAY ad n1 n2 w pc ls (.ref (ad 26) :: st) := g_geti X (c := 26) (ci := 4) (k0 := 10) (N := 16) (C := RX4) (T := TX4) rfl rfl inX4 (by decide) rfl wf_X4_50 rfl hd k
theorem gp_X4_50 {κ : KX} {D : CX} {ad : Nat → Nat} {n1 n2 : Nat} {w : Wd} {pc : Nat} {ls : List (Nat × Value)} {st : List Value} {cc : ByteArray} {rm : Room} {lc : Launch} {L : Nat} (X : gX κ D cc RX4 rm lc L) {x : Int} (hd : decode cc pc = .ok (.putfield 50, 3)) (k : G κ D LAY ad n1 n2 (wset w 26 10 x) (pc + 3) ls st) : G κ D LAY ad n1 n2 w pc ls (iv x :: .ref (ad 26) :: st) := g_puti X (c := 26) (ci := 4) (k0 := 10) (N := 16) (C := RX4) (T := TX4) tyX4 tyX4_ok nmX4 rfl rfl inX4 (by decide) rfl wf_X4_50 rfl rfl (by decide +kernel) hd k
theorem wf_X4_54 : Cond.fieldLink RX4 54 RX4 (TX4 4).2.1 (TX4 4).2.2.1 ∈ Wu := wq 549 (by decide +kernel) (by decide +kernel)
theorem gf_X4_54 {κ : KX} {D : CX} {ad : Nat → Nat} {n1 n2 : Nat} {w : Wd} {pc : Nat} {ls : List (Nat × Value)} {st : List Value} {cc : ByteArray} {rm : Room} {lc : Launch} {L : Nat} (X : gX κ D cc RX4 rm lc L) (hd : decode cc pc = .ok (.getfield 54, 3)) (k : G κ D LAY ad n1 n2 w (pc + 3) ls (iv (w 26 4) :: st)) : G κ D LAY ad n1 n2 w pc ls (.ref (ad 26) :: st) := g_geti X (c := 26) (ci := 4) (k0 := 4) (N := 16) (C := RX4) (T := TX4) rfl rfl inX4 (by decide) rfl wf_X4_54 rfl hd k
theorem gp_X4_54 {κ : KX} {D : CX} {ad : Nat → Nat} {n1 n2 : Nat} {w : Wd} {pc : Nat} {ls : List (Nat × Value)} {st : List Value} {cc : ByteArray} {rm : Room} {lc : Launch} {L : Nat} (X : gX κ D cc RX4 rm lc L) {x : Int} (hd : decode cc pc = .ok (.putfield 54, 3)) (k : G κ D LAY ad n1 n2 (wset w 26 4 x) (pc + 3) ls st) : G κ D LAY ad n1 n2 w pc ls (iv x :: .ref (ad 26) :: st) := g_puti X (c := 26) (ci := 4) (k0 := 4) (N := 16) (C := RX4) (T := TX4) tyX4 tyX4_ok nmX4 rfl rfl inX4 (by decide) rfl wf_X4_54 rfl rfl (by decide +kernel) hd k
theorem wf_X4_61 : Cond.fieldLink RX4 61 RX4 (TX4 6).2.1 (TX4 6).2.2.1 ∈ Wu := wq 551 (by decide +kernel) (by decide +kernel)
theorem gf_X4_61 {κ : KX} {D : CX} {ad : Nat → Nat} {n1 n2 : Nat} {w : Wd} {pc : Nat} {ls : List (Nat × Value)} {st : List Value} {cc : ByteArray} {rm : Room} {lc : Launch} {L : Nat} (X : gX κ D cc RX4 rm lc L) (hd : decode cc pc = .ok (.getfield 61, 3)) (k : G κ D LAY ad n1 n2 w (pc + 3) ls (iv (w 26 6) :: st)) : G κ D LAY ad n1 n2 w pc ls (.ref (ad 26) :: st) := g_geti X (c := 26) (ci := 4) (k0 := 6) (N := 16) (C := RX4) (T := TX4) rfl rfl inX4 (by decide) rfl wf_X4_61 rfl hd k
theorem gp_X4_61 {κ : KX} {D : CX} {ad : Nat → Nat} {n1 n2 : Nat} {w : Wd} {pc : Nat} {ls : List (Nat × Value)} {st : List Value} {cc : ByteArray} {rm : Room} {lc : Launch} {L : Nat} (X : gX κ D cc RX4 rm lc L) {x : Int} (hd : decode cc pc = .ok (.putfield 61, 3)) (k : G κ D LAY ad n1 n2 (wset w 26 6 x) (pc + 3) ls st) : G κ D LAY ad n1 n2 w pc ls (iv x :: .ref (ad 26) :: st) := g_puti X (c := 26) (ci := 4) (k0 := 6) (N := 16) (C := RX4) (T := TX4) tyX4 tyX4_ok nmX4 rfl rfl inX4 (by decide) rfl wf_X4_61 rfl rfl (by decide +kernel) hd k
theorem wm_X3_11 : Cond.methodLink RX3 11 yX2_init ∈ Wu := wq 69 (by decide +kernel) (by decide +kernel)
theorem wm_X3_18 : Cond.methodLink RX3 18 yX0_init ∈ Wu := wq 92 (by decide +kernel) (by decide +kernel)
theorem wm_X3_25 : Cond.methodLink RX3 25 yX1_init ∈ Wu := wq 144 (by decide +kernel) (by decide +kernel)
theorem wm_X3_44 : Cond.methodLink RX3 44 yX3_within ∈ Wu := wq 201 (by decide +kernel) (by decide +kernel)
theorem wm_X3_57 : Cond.methodLink RX3 57 yX3_areHours ∈ Wu := wq 214 (by decide +kernel) (by decide +kernel)
theorem wm_X3_64 : Cond.methodLink RX3 64 yX3_isHour ∈ Wu := wq 217 (by decide +kernel) (by decide +kernel)
theorem wm_X3_108 : Cond.methodLink RX3 108 yX0_has ∈ Wu := wq 232 (by decide +kernel) (by decide +kernel)
theorem wm_X3_114 : Cond.methodLink RX3 114 yX0_berthed ∈ Wu := wq 244 (by decide +kernel) (by decide +kernel)
theorem wm_X3_118 : Cond.methodLink RX3 118 yJ6_bitCount_0f7a4 ∈ Wu := wq 252 (by decide +kernel) (by decide +kernel)
theorem wm_X3_124 : Cond.methodLink RX3 124 yX3_showOfBerths ∈ Wu := wq 258 (by decide +kernel) (by decide +kernel)
theorem wm_X3_127 : Cond.methodLink RX3 127 yX2_leastLevel ∈ Wu := wq 270 (by decide +kernel) (by decide +kernel)
theorem wm_X3_130 : Cond.methodLink RX3 130 yX2_greatestLevel ∈ Wu := wq 277 (by decide +kernel) (by decide +kernel)
theorem wm_X3_133 : Cond.methodLink RX3 133 yX3_firstWayIn ∈ Wu := wq 288 (by decide +kernel) (by decide +kernel)
theorem wm_X3_137 : Cond.methodLink RX3 137 yX1_has ∈ Wu := wq 266 (by decide +kernel) (by decide +kernel)
theorem wm_X3_138 : Cond.methodLink RX3 138 yX3_hindrance ∈ Wu := wq 312 (by decide +kernel) (by decide +kernel)
theorem wm_X3_152 : Cond.methodLink RX3 152 yX3_firstMisplaced ∈ Wu := wq 328 (by decide +kernel) (by decide +kernel)
theorem wm_X3_155 : Cond.methodLink RX3 155 yX3_firstFouling ∈ Wu := wq 332 (by decide +kernel) (by decide +kernel)
theorem wm_X3_158 : Cond.methodLink RX3 158 yX3_firstTooShort ∈ Wu := wq 340 (by decide +kernel) (by decide +kernel)
theorem wm_X3_161 : Cond.methodLink RX3 161 yX3_leastBerths ∈ Wu := wq 352 (by decide +kernel) (by decide +kernel)
theorem wm_X3_165 : Cond.methodLink RX3 165 yX3_berthAll ∈ Wu := wq 388 (by decide +kernel) (by decide +kernel)
theorem wm_X3_169 : Cond.methodLink RX3 169 yX3_roomLeft ∈ Wu := wq 344 (by decide +kernel) (by decide +kernel)
theorem wm_X3_172 : Cond.methodLink RX3 172 yX3_leastPlan ∈ Wu := wq 407 (by decide +kernel) (by decide +kernel)
theorem wm_X3_178 : Cond.methodLink RX3 178 yX3_keepPlan ∈ Wu := wq 431 (by decide +kernel) (by decide +kernel)
theorem wm_X3_185 : Cond.methodLink RX3 185 yX0_isBerthed ∈ Wu := wq 443 (by decide +kernel) (by decide +kernel)
theorem wm_X3_188 : Cond.methodLink RX3 188 yX0_aheadOf ∈ Wu := wq 444 (by decide +kernel) (by decide +kernel)
theorem wm_X3_191 : Cond.methodLink RX3 191 yX3_parade ∈ Wu := wq 452 (by decide +kernel) (by decide +kernel)
theorem wm_X3_194 : Cond.methodLink RX3 194 yJ9_max_7cf53 ∈ Wu := wq 453 (by decide +kernel) (by decide +kernel)
theorem wm_X3_199 : Cond.methodLink RX3 199 yX3_isSteep ∈ Wu := wq 458 (by decide +kernel) (by decide +kernel)
theorem wm_X3_202 : Cond.methodLink RX3 202 yX2_levelAt ∈ Wu := wq 296 (by decide +kernel) (by decide +kernel)
theorem wm_X3_205 : Cond.methodLink RX3 205 yX3_canCross ∈ Wu := wq 300 (by decide +kernel) (by decide +kernel)
theorem wm_X3_208 : Cond.methodLink RX3 208 yX3_clearsBridge ∈ Wu := wq 304 (by decide +kernel) (by decide +kernel)
theorem wm_X3_211 : Cond.methodLink RX3 211 yX3_hasWayIn ∈ Wu := wq 292 (by decide +kernel) (by decide +kernel)
theorem wm_X3_215 : Cond.methodLink RX3 215 yX3_isAfloat ∈ Wu := wq 316 (by decide +kernel) (by decide +kernel)
theorem wm_X3_218 : Cond.methodLink RX3 218 yJ9_abs_0f7a4 ∈ Wu := wq 462 (by decide +kernel) (by decide +kernel)
theorem wm_X3_221 : Cond.methodLink RX3 221 yX3_showAt ∈ Wu := wq 262 (by decide +kernel) (by decide +kernel)
theorem wm_X3_224 : Cond.methodLink RX3 224 yX0_berthedAt ∈ Wu := wq 336 (by decide +kernel) (by decide +kernel)
theorem wm_X3_227 : Cond.methodLink RX3 227 yX3_startIdle ∈ Wu := wq 356 (by decide +kernel) (by decide +kernel)
theorem wm_X3_231 : Cond.methodLink RX3 231 yX3_measureSpans ∈ Wu := wq 368 (by decide +kernel) (by decide +kernel)
theorem wm_X3_234 : Cond.methodLink RX3 234 yX3_weighSets ∈ Wu := wq 372 (by decide +kernel) (by decide +kernel)
theorem wm_X3_238 : Cond.methodLink RX3 238 yX3_offerQuay ∈ Wu := wq 377 (by decide +kernel) (by decide +kernel)
theorem wm_X3_241 : Cond.methodLink RX3 241 yX0_all ∈ Wu := wq 381 (by decide +kernel) (by decide +kernel)
theorem wm_X3_244 : Cond.methodLink RX3 244 yX3_berthCost ∈ Wu := wq 360 (by decide +kernel) (by decide +kernel)
theorem wm_X3_248 : Cond.methodLink RX3 248 yJ9_min_f86c9 ∈ Wu := wq 385 (by decide +kernel) (by decide +kernel)
theorem wm_X3_254 : Cond.methodLink RX3 254 yX3_lowShift ∈ Wu := wq 365 (by decide +kernel) (by decide +kernel)
theorem wm_X3_257 : Cond.methodLink RX3 257 yX3_lowChoice ∈ Wu := wq 392 (by decide +kernel) (by decide +kernel)
theorem wm_X3_261 : Cond.methodLink RX3 261 yJ7_fill_d0a16 ∈ Wu := wq 411 (by decide +kernel) (by decide +kernel)
theorem wm_X3_267 : Cond.methodLink RX3 267 yJ7_fill_53178 ∈ Wu := wq 414 (by decide +kernel) (by decide +kernel)
theorem wm_X3_270 : Cond.methodLink RX3 270 yX3_readyAt ∈ Wu := wq 415 (by decide +kernel) (by decide +kernel)
theorem wm_X3_273 : Cond.methodLink RX3 273 yX3_offerHour ∈ Wu := wq 423 (by decide +kernel) (by decide +kernel)
theorem wm_X3_277 : Cond.methodLink RX3 277 yX3_canComeIn ∈ Wu := wq 419 (by decide +kernel) (by decide +kernel)
theorem wm_X3_280 : Cond.methodLink RX3 280 yX3_hourCost ∈ Wu := wq 427 (by decide +kernel) (by decide +kernel)
theorem wm_X0_46 : Cond.methodLink RX0 46 yJ7_fill_53178 ∈ Wu := wq 96 (by decide +kernel) (by decide +kernel)
theorem wm_X0_52 : Cond.methodLink RX0 52 yX0_isBerthed ∈ Wu := wq 248 (by decide +kernel) (by decide +kernel)
theorem wm_X2_21 : Cond.methodLink RX2 21 yJ7_fill_53178 ∈ Wu := wq 73 (by decide +kernel) (by decide +kernel)
theorem wm_X2_27 : Cond.methodLink RX2 27 yJ9_min_7cf53 ∈ Wu := wq 274 (by decide +kernel) (by decide +kernel)
theorem wm_X2_33 : Cond.methodLink RX2 33 yJ9_max_7cf53 ∈ Wu := wq 281 (by decide +kernel) (by decide +kernel)
theorem wm_L_7 : Cond.methodLink RL 7 yX3_at ∈ Wu := wq 469 (by decide +kernel) (by decide +kernel)
theorem wm_L_15 : Cond.methodLink RL 15 yX3_init ∈ Wu := wq 61 (by decide +kernel) (by decide +kernel)
theorem wm_L_18 : Cond.methodLink RL 18 yX4_init ∈ Wu := wq 541 (by decide +kernel) (by decide +kernel)
theorem wm_L_19 : Cond.methodLink RL 19 yX3_tide ∈ Wu := wq 197 (by decide +kernel) (by decide +kernel)
theorem wm_L_23 : Cond.methodLink RL 23 yX4_tide ∈ Wu := wq 598 (by decide +kernel) (by decide +kernel)
theorem wm_L_24 : Cond.methodLink RL 24 yX3_set ∈ Wu := wq 204 (by decide +kernel) (by decide +kernel)
theorem wm_L_28 : Cond.methodLink RL 28 yX4_set ∈ Wu := wq 605 (by decide +kernel) (by decide +kernel)
theorem wm_L_29 : Cond.methodLink RL 29 yX3_tugs ∈ Wu := wq 210 (by decide +kernel) (by decide +kernel)
theorem wm_L_33 : Cond.methodLink RL 33 yX4_tugs ∈ Wu := wq 612 (by decide +kernel) (by decide +kernel)
theorem wm_L_34 : Cond.methodLink RL 34 yX3_ship ∈ Wu := wq 220 (by decide +kernel) (by decide +kernel)
theorem wm_L_38 : Cond.methodLink RL 38 yX4_ship ∈ Wu := wq 619 (by decide +kernel) (by decide +kernel)
theorem wm_L_39 : Cond.methodLink RL 39 yX3_quay ∈ Wu := wq 224 (by decide +kernel) (by decide +kernel)
theorem wm_L_43 : Cond.methodLink RL 43 yX4_quay ∈ Wu := wq 623 (by decide +kernel) (by decide +kernel)
theorem wm_L_44 : Cond.methodLink RL 44 yX3_foul ∈ Wu := wq 228 (by decide +kernel) (by decide +kernel)
theorem wm_L_48 : Cond.methodLink RL 48 yX4_foul ∈ Wu := wq 627 (by decide +kernel) (by decide +kernel)
theorem wm_L_49 : Cond.methodLink RL 49 yX3_arrives ∈ Wu := wq 236 (by decide +kernel) (by decide +kernel)
theorem wm_L_52 : Cond.methodLink RL 52 yX4_arrives ∈ Wu := wq 635 (by decide +kernel) (by decide +kernel)
theorem wm_L_53 : Cond.methodLink RL 53 yX3_count ∈ Wu := wq 240 (by decide +kernel) (by decide +kernel)
theorem wm_L_56 : Cond.methodLink RL 56 yX4_count ∈ Wu := wq 675 (by decide +kernel) (by decide +kernel)
theorem wm_L_57 : Cond.methodLink RL 57 yX3_first ∈ Wu := wq 284 (by decide +kernel) (by decide +kernel)
theorem wm_L_61 : Cond.methodLink RL 61 yX4_first ∈ Wu := wq 639 (by decide +kernel) (by decide +kernel)
theorem wm_L_62 : Cond.methodLink RL 62 yX3_may ∈ Wu := wq 308 (by decide +kernel) (by decide +kernel)
theorem wm_L_65 : Cond.methodLink RL 65 yX4_may ∈ Wu := wq 655 (by decide +kernel) (by decide +kernel)
theorem wm_L_66 : Cond.methodLink RL 66 yX3_put ∈ Wu := wq 320 (by decide +kernel) (by decide +kernel)
theorem wm_L_69 : Cond.methodLink RL 69 yX4_put ∈ Wu := wq 690 (by decide +kernel) (by decide +kernel)
theorem wm_L_70 : Cond.methodLink RL 70 yL_at ∈ Wu := wq 465 (by decide +kernel) (by decide +kernel)
theorem wm_L_75 : Cond.methodLink RL 75 yX4_at ∈ Wu := wq 694 (by decide +kernel) (by decide +kernel)
theorem wm_L_76 : Cond.methodLink RL 76 yX4_thrown ∈ Wu := wq 594 (by decide +kernel) (by decide +kernel)
theorem wm_L_80 : Cond.methodLink RL 80 yX3_wrong ∈ Wu := wq 324 (by decide +kernel) (by decide +kernel)
theorem wm_L_83 : Cond.methodLink RL 83 yX4_wrong ∈ Wu := wq 698 (by decide +kernel) (by decide +kernel)
theorem wm_L_84 : Cond.methodLink RL 84 yX3_best ∈ Wu := wq 348 (by decide +kernel) (by decide +kernel)
theorem wm_L_87 : Cond.methodLink RL 87 yX4_best ∈ Wu := wq 714 (by decide +kernel) (by decide +kernel)
theorem wm_L_88 : Cond.methodLink RL 88 yX3_mend ∈ Wu := wq 395 (by decide +kernel) (by decide +kernel)
theorem wm_L_91 : Cond.methodLink RL 91 yX4_mend ∈ Wu := wq 730 (by decide +kernel) (by decide +kernel)
theorem wm_L_92 : Cond.methodLink RL 92 yX3_left ∈ Wu := wq 399 (by decide +kernel) (by decide +kernel)
theorem wm_L_95 : Cond.methodLink RL 95 yX4_left ∈ Wu := wq 710 (by decide +kernel) (by decide +kernel)
theorem wm_L_96 : Cond.methodLink RL 96 yX3_plan ∈ Wu := wq 403 (by decide +kernel) (by decide +kernel)
theorem wm_L_99 : Cond.methodLink RL 99 yX4_plan ∈ Wu := wq 734 (by decide +kernel) (by decide +kernel)
theorem wm_L_100 : Cond.methodLink RL 100 yX3_in ∈ Wu := wq 435 (by decide +kernel) (by decide +kernel)
theorem wm_L_103 : Cond.methodLink RL 103 yX4_in_ ∈ Wu := wq 747 (by decide +kernel) (by decide +kernel)
theorem wm_L_104 : Cond.methodLink RL 104 yX3_parade ∈ Wu := wq 439 (by decide +kernel) (by decide +kernel)
theorem wm_L_107 : Cond.methodLink RL 107 yX4_parade ∈ Wu := wq 751 (by decide +kernel) (by decide +kernel)
theorem wm_L_108 : Cond.methodLink RL 108 yX3_minutes ∈ Wu := wq 448 (by decide +kernel) (by decide +kernel)
theorem wm_L_111 : Cond.methodLink RL 111 yX4_minutes ∈ Wu := wq 763 (by decide +kernel) (by decide +kernel)
theorem wm_L_112 : Cond.methodLink RL 112 yX3_open ∈ Wu := wq 454 (by decide +kernel) (by decide +kernel)
theorem wm_L_115 : Cond.methodLink RL 115 yX4_open ∈ Wu := wq 767 (by decide +kernel) (by decide +kernel)
theorem wm_X4_57 : Cond.methodLink RX4 57 yX4_in ∈ Wu := wq 602 (by decide +kernel) (by decide +kernel)
theorem wm_X4_64 : Cond.methodLink RX4 64 yX4_mostOf ∈ Wu := wq 609 (by decide +kernel) (by decide +kernel)
theorem wm_X4_68 : Cond.methodLink RX4 68 yX4_isHour ∈ Wu := wq 616 (by decide +kernel) (by decide +kernel)
theorem wm_X4_72 : Cond.methodLink RX4 72 yX4_isShip ∈ Wu := wq 631 (by decide +kernel) (by decide +kernel)
theorem wm_X4_75 : Cond.methodLink RX4 75 yX4_level ∈ Wu := wq 651 (by decide +kernel) (by decide +kernel)
theorem wm_X4_78 : Cond.methodLink RX4 78 yX4_comes ∈ Wu := wq 647 (by decide +kernel) (by decide +kernel)
theorem wm_X4_82 : Cond.methodLink RX4 82 yX4_firstFor ∈ Wu := wq 643 (by decide +kernel) (by decide +kernel)
theorem wm_X4_86 : Cond.methodLink RX4 86 yX4_least ∈ Wu := wq 667 (by decide +kernel) (by decide +kernel)
theorem wm_X4_90 : Cond.methodLink RX4 90 yX4_isAbove ∈ Wu := wq 671 (by decide +kernel) (by decide +kernel)
theorem wm_X4_93 : Cond.methodLink RX4 93 yX4_isQuay ∈ Wu := wq 659 (by decide +kernel) (by decide +kernel)
theorem wm_X4_96 : Cond.methodLink RX4 96 yX4_whyNot ∈ Wu := wq 663 (by decide +kernel) (by decide +kernel)
theorem wm_X4_100 : Cond.methodLink RX4 100 yX4_berthed ∈ Wu := wq 679 (by decide +kernel) (by decide +kernel)
theorem wm_X4_104 : Cond.methodLink RX4 104 yX4_show ∈ Wu := wq 683 (by decide +kernel) (by decide +kernel)
theorem wm_X4_108 : Cond.methodLink RX4 108 yX4_greatest ∈ Wu := wq 686 (by decide +kernel) (by decide +kernel)
theorem wm_X4_111 : Cond.methodLink RX4 111 yX4_room ∈ Wu := wq 706 (by decide +kernel) (by decide +kernel)
theorem wm_X4_115 : Cond.methodLink RX4 115 yX4_why ∈ Wu := wq 702 (by decide +kernel) (by decide +kernel)
theorem wm_X4_118 : Cond.methodLink RX4 118 yX4_isGood ∈ Wu := wq 722 (by decide +kernel) (by decide +kernel)
theorem wm_X4_122 : Cond.methodLink RX4 122 yX4_moved ∈ Wu := wq 726 (by decide +kernel) (by decide +kernel)
theorem wm_X4_125 : Cond.methodLink RX4 125 yX4_search ∈ Wu := wq 718 (by decide +kernel) (by decide +kernel)
theorem wm_X4_130 : Cond.methodLink RX4 130 yX4_mayCome ∈ Wu := wq 743 (by decide +kernel) (by decide +kernel)
theorem wm_X4_134 : Cond.methodLink RX4 134 yX4_sumOf ∈ Wu := wq 738 (by decide +kernel) (by decide +kernel)
theorem wm_X4_137 : Cond.methodLink RX4 137 yX4_isAhead ∈ Wu := wq 759 (by decide +kernel) (by decide +kernel)
theorem wm_X4_140 : Cond.methodLink RX4 140 yX4_paradeAt ∈ Wu := wq 755 (by decide +kernel) (by decide +kernel)
theorem wm_X4_143 : Cond.methodLink RX4 143 yJ9_abs_0f7a4 ∈ Wu := wq 771 (by decide +kernel) (by decide +kernel)
theorem wk_X4_129 : Cond.constant RX4 129 (iN (268435456)) ∈ Wu := wq 742 (by decide +kernel) (by decide +kernel)
theorem wk_J6_265 : Cond.constant RJ6 265 (iN (1431655765)) ∈ Wu := wq 255 (by decide +kernel) (by decide +kernel)
theorem wk_J6_266 : Cond.constant RJ6 266 (iN (858993459)) ∈ Wu := wq 256 (by decide +kernel) (by decide +kernel)
theorem wk_J6_267 : Cond.constant RJ6 267 (iN (252645135)) ∈ Wu := wq 257 (by decide +kernel) (by decide +kernel)
theorem wk_X3_176 : Cond.constantLong RX3 176 (jN (-1)) ∈ Wu := wq 376 (by decide +kernel) (by decide +kernel)
theorem wk_X3_252 : Cond.constantLong RX3 252 (jN (4)) ∈ Wu := wq 364 (by decide +kernel) (by decide +kernel)
abbrev rmX0_init : Room := { frames := 1, cells := 0, slots := 0, locals := 23 }
abbrev rmX0_has : Room := { frames := 0, cells := 0, slots := 0, locals := 0 }
theorem cal_X0_has : CalV yX0_has cX0_has 2 (some .boolean) 1 := ⟨wq 233 (by decide +kernel) (by decide +kernel), wq 234 (by decide +kernel) (by decide +kernel), wq 50 (by decide +kernel) (by decide +kernel), wq 235 (by decide +kernel) (by decide +kernel), ⟨by decide +kernel, by decide +kernel, by decide +kernel⟩⟩
abbrev rmX0_all : Room := { frames := 0, cells := 0, slots := 0, locals := 0 }
theorem cal_X0_all : CalV yX0_all cX0_all 1 (some .int) 0 := ⟨wq 382 (by decide +kernel) (by decide +kernel), wq 383 (by decide +kernel) (by decide +kernel), wq 50 (by decide +kernel) (by decide +kernel), wq 384 (by decide +kernel) (by decide +kernel), ⟨by decide +kernel, by decide +kernel, by decide +kernel⟩⟩
abbrev rmX0_isBerthed : Room := { frames := 0, cells := 0, slots := 0, locals := 0 }
theorem cal_X0_isBerthed : CalV yX0_isBerthed cX0_isBerthed 2 (some .boolean) 1 := ⟨wq 249 (by decide +kernel) (by decide +kernel), wq 250 (by decide +kernel) (by decide +kernel), wq 50 (by decide +kernel) (by decide +kernel), wq 251 (by decide +kernel) (by decide +kernel), ⟨by decide +kernel, by decide +kernel, by decide +kernel⟩⟩
abbrev rmX0_berthed : Room := { frames := 1, cells := 0, slots := 0, locals := 21 }
theorem cal_X0_berthed : CalV yX0_berthed cX0_berthed 3 (some .int) 0 := ⟨wq 245 (by decide +kernel) (by decide +kernel), wq 246 (by decide +kernel) (by decide +kernel), wq 50 (by decide +kernel) (by decide +kernel), wq 247 (by decide +kernel) (by decide +kernel), ⟨by decide +kernel, by decide +kernel, by decide +kernel⟩⟩
abbrev rmX0_berthedAt : Room := { frames := 0, cells := 0, slots := 0, locals := 0 }
theorem cal_X0_berthedAt : CalV yX0_berthedAt cX0_berthedAt 4 (some .int) 1 := ⟨wq 337 (by decide +kernel) (by decide +kernel), wq 338 (by decide +kernel) (by decide +kernel), wq 50 (by decide +kernel) (by decide +kernel), wq 339 (by decide +kernel) (by decide +kernel), ⟨by decide +kernel, by decide +kernel, by decide +kernel⟩⟩
abbrev rmX0_aheadOf : Room := { frames := 1, cells := 0, slots := 0, locals := 21 }
theorem cal_X0_aheadOf : CalV yX0_aheadOf cX0_aheadOf 5 (some .int) 1 := ⟨wq 445 (by decide +kernel) (by decide +kernel), wq 446 (by decide +kernel) (by decide +kernel), wq 50 (by decide +kernel) (by decide +kernel), wq 447 (by decide +kernel) (by decide +kernel), ⟨by decide +kernel, by decide +kernel, by decide +kernel⟩⟩
abbrev rmX1_init : Room := { frames := 1, cells := 0, slots := 0, locals := 20 }
abbrev rmX1_has : Room := { frames := 0, cells := 0, slots := 0, locals := 0 }
theorem cal_X1_has : CalV yX1_has cX1_has 2 (some .boolean) 1 := ⟨wq 267 (by decide +kernel) (by decide +kernel), wq 268 (by decide +kernel) (by decide +kernel), wq 51 (by decide +kernel) (by decide +kernel), wq 269 (by decide +kernel) (by decide +kernel), ⟨by decide +kernel, by decide +kernel, by decide +kernel⟩⟩
abbrev rmX2_init : Room := { frames := 1, cells := 0, slots := 0, locals := 23 }
abbrev rmX2_levelAt : Room := { frames := 0, cells := 0, slots := 0, locals := 0 }
theorem cal_X2_levelAt : CalV yX2_levelAt cX2_levelAt 2 (some .int) 1 := ⟨wq 297 (by decide +kernel) (by decide +kernel), wq 298 (by decide +kernel) (by decide +kernel), wq 48 (by decide +kernel) (by decide +kernel), wq 299 (by decide +kernel) (by decide +kernel), ⟨by decide +kernel, by decide +kernel, by decide +kernel⟩⟩
abbrev rmX2_leastLevel : Room := { frames := 1, cells := 0, slots := 0, locals := 21 }
theorem cal_X2_leastLevel : CalV yX2_leastLevel cX2_leastLevel 3 (some .int) 0 := ⟨wq 271 (by decide +kernel) (by decide +kernel), wq 272 (by decide +kernel) (by decide +kernel), wq 48 (by decide +kernel) (by decide +kernel), wq 273 (by decide +kernel) (by decide +kernel), ⟨by decide +kernel, by decide +kernel, by decide +kernel⟩⟩
abbrev rmX2_greatestLevel : Room := { frames := 1, cells := 0, slots := 0, locals := 21 }
theorem cal_X2_greatestLevel : CalV yX2_greatestLevel cX2_greatestLevel 3 (some .int) 0 := ⟨wq 278 (by decide +kernel) (by decide +kernel), wq 279 (by decide +kernel) (by decide +kernel), wq 48 (by decide +kernel) (by decide +kernel), wq 280 (by decide +kernel) (by decide +kernel), ⟨by decide +kernel, by decide +kernel, by decide +kernel⟩⟩
abbrev rmX3_init : Room := { frames := 2, cells := 0, slots := 0, locals := 43 }
abbrev rmX3_tide : Room := { frames := 1, cells := 0, slots := 0, locals := 22 }
theorem cal_X3_tide : CalV yX3_tide cX3_tide 3 (some .boolean) 2 := ⟨wq 198 (by decide +kernel) (by decide +kernel), wq 199 (by decide +kernel) (by decide +kernel), wq 47 (by decide +kernel) (by decide +kernel), wq 200 (by decide +kernel) (by decide +kernel), ⟨by decide +kernel, by decide +kernel, by decide +kernel⟩⟩
abbrev rmX3_set : Room := { frames := 1, cells := 0, slots := 0, locals := 22 }
theorem cal_X3_set : CalV yX3_set cX3_set 4 (some .int) 2 := ⟨wq 205 (by decide +kernel) (by decide +kernel), wq 206 (by decide +kernel) (by decide +kernel), wq 47 (by decide +kernel) (by decide +kernel), wq 207 (by decide +kernel) (by decide +kernel), ⟨by decide +kernel, by decide +kernel, by decide +kernel⟩⟩
abbrev rmX3_tugs : Room := { frames := 3, cells := 0, slots := 0, locals := 63 }
theorem cal_X3_tugs : CalV yX3_tugs cX3_tugs 5 (some .boolean) 3 := ⟨wq 211 (by decide +kernel) (by decide +kernel), wq 212 (by decide +kernel) (by decide +kernel), wq 47 (by decide +kernel) (by decide +kernel), wq 213 (by decide +kernel) (by decide +kernel), ⟨by decide +kernel, by decide +kernel, by decide +kernel⟩⟩
abbrev rmX3_ship : Room := { frames := 2, cells := 0, slots := 0, locals := 42 }
theorem cal_X3_ship : CalV yX3_ship cX3_ship 11 (some .int) 7 := ⟨wq 221 (by decide +kernel) (by decide +kernel), wq 222 (by decide +kernel) (by decide +kernel), wq 47 (by decide +kernel) (by decide +kernel), wq 223 (by decide +kernel) (by decide +kernel), ⟨by decide +kernel, by decide +kernel, by decide +kernel⟩⟩
abbrev rmX3_quay : Room := { frames := 1, cells := 0, slots := 0, locals := 22 }
theorem cal_X3_quay : CalV yX3_quay cX3_quay 9 (some .int) 5 := ⟨wq 225 (by decide +kernel) (by decide +kernel), wq 226 (by decide +kernel) (by decide +kernel), wq 47 (by decide +kernel) (by decide +kernel), wq 227 (by decide +kernel) (by decide +kernel), ⟨by decide +kernel, by decide +kernel, by decide +kernel⟩⟩
abbrev rmX3_foul : Room := { frames := 1, cells := 0, slots := 0, locals := 21 }
theorem cal_X3_foul : CalV yX3_foul cX3_foul 4 (some .boolean) 3 := ⟨wq 229 (by decide +kernel) (by decide +kernel), wq 230 (by decide +kernel) (by decide +kernel), wq 47 (by decide +kernel) (by decide +kernel), wq 231 (by decide +kernel) (by decide +kernel), ⟨by decide +kernel, by decide +kernel, by decide +kernel⟩⟩
abbrev rmX3_arrives : Room := { frames := 2, cells := 0, slots := 0, locals := 42 }
theorem cal_X3_arrives : CalV yX3_arrives cX3_arrives 4 (some .int) 2 := ⟨wq 237 (by decide +kernel) (by decide +kernel), wq 238 (by decide +kernel) (by decide +kernel), wq 47 (by decide +kernel) (by decide +kernel), wq 239 (by decide +kernel) (by decide +kernel), ⟨by decide +kernel, by decide +kernel, by decide +kernel⟩⟩
abbrev rmX3_count : Room := { frames := 3, cells := 0, slots := 0, locals := 65 }
theorem cal_X3_count : CalV yX3_count cX3_count 2 (some .int) 1 := ⟨wq 241 (by decide +kernel) (by decide +kernel), wq 242 (by decide +kernel) (by decide +kernel), wq 47 (by decide +kernel) (by decide +kernel), wq 243 (by decide +kernel) (by decide +kernel), ⟨by decide +kernel, by decide +kernel, by decide +kernel⟩⟩
abbrev rmX3_first : Room := { frames := 3, cells := 0, slots := 0, locals := 71 }
theorem cal_X3_first : CalV yX3_first cX3_first 4 (some .int) 3 := ⟨wq 285 (by decide +kernel) (by decide +kernel), wq 286 (by decide +kernel) (by decide +kernel), wq 47 (by decide +kernel) (by decide +kernel), wq 287 (by decide +kernel) (by decide +kernel), ⟨by decide +kernel, by decide +kernel, by decide +kernel⟩⟩
abbrev rmX3_may : Room := { frames := 4, cells := 0, slots := 0, locals := 94 }
theorem cal_X3_may : CalV yX3_may cX3_may 3 (some .int) 2 := ⟨wq 309 (by decide +kernel) (by decide +kernel), wq 310 (by decide +kernel) (by decide +kernel), wq 47 (by decide +kernel) (by decide +kernel), wq 311 (by decide +kernel) (by decide +kernel), ⟨by decide +kernel, by decide +kernel, by decide +kernel⟩⟩
abbrev rmX3_put : Room := { frames := 1, cells := 0, slots := 0, locals := 21 }
theorem cal_X3_put : CalV yX3_put cX3_put 3 (some .boolean) 2 := ⟨wq 321 (by decide +kernel) (by decide +kernel), wq 322 (by decide +kernel) (by decide +kernel), wq 47 (by decide +kernel) (by decide +kernel), wq 323 (by decide +kernel) (by decide +kernel), ⟨by decide +kernel, by decide +kernel, by decide +kernel⟩⟩
abbrev rmX3_at : Room := { frames := 1, cells := 0, slots := 0, locals := 21 }
theorem cal_X3_at : CalV yX3_at cX3_at 2 (some .int) 1 := ⟨wq 470 (by decide +kernel) (by decide +kernel), wq 471 (by decide +kernel) (by decide +kernel), wq 47 (by decide +kernel) (by decide +kernel), wq 472 (by decide +kernel) (by decide +kernel), ⟨by decide +kernel, by decide +kernel, by decide +kernel⟩⟩
abbrev rmX3_wrong : Room := { frames := 5, cells := 0, slots := 0, locals := 116 }
theorem cal_X3_wrong : CalV yX3_wrong cX3_wrong 4 (some .int) 0 := ⟨wq 325 (by decide +kernel) (by decide +kernel), wq 326 (by decide +kernel) (by decide +kernel), wq 47 (by decide +kernel) (by decide +kernel), wq 327 (by decide +kernel) (by decide +kernel), ⟨by decide +kernel, by decide +kernel, by decide +kernel⟩⟩
abbrev rmX3_best : Room := { frames := 6, cells := 0, slots := 0, locals := 146 }
theorem cal_X3_best : CalV yX3_best cX3_best 1 (some .int) 0 := ⟨wq 349 (by decide +kernel) (by decide +kernel), wq 350 (by decide +kernel) (by decide +kernel), wq 47 (by decide +kernel) (by decide +kernel), wq 351 (by decide +kernel) (by decide +kernel), ⟨by decide +kernel, by decide +kernel, by decide +kernel⟩⟩
abbrev rmX3_mend : Room := { frames := 6, cells := 0, slots := 0, locals := 146 }
theorem cal_X3_mend : CalV yX3_mend cX3_mend 1 (some .int) 0 := ⟨wq 396 (by decide +kernel) (by decide +kernel), wq 397 (by decide +kernel) (by decide +kernel), wq 47 (by decide +kernel) (by decide +kernel), wq 398 (by decide +kernel) (by decide +kernel), ⟨by decide +kernel, by decide +kernel, by decide +kernel⟩⟩
abbrev rmX3_left : Room := { frames := 1, cells := 0, slots := 0, locals := 24 }
theorem cal_X3_left : CalV yX3_left cX3_left 2 (some .int) 1 := ⟨wq 400 (by decide +kernel) (by decide +kernel), wq 401 (by decide +kernel) (by decide +kernel), wq 47 (by decide +kernel) (by decide +kernel), wq 402 (by decide +kernel) (by decide +kernel), ⟨by decide +kernel, by decide +kernel, by decide +kernel⟩⟩
abbrev rmX3_plan : Room := { frames := 5, cells := 0, slots := 0, locals := 119 }
theorem cal_X3_plan : CalV yX3_plan cX3_plan 4 (some .int) 0 := ⟨wq 404 (by decide +kernel) (by decide +kernel), wq 405 (by decide +kernel) (by decide +kernel), wq 47 (by decide +kernel) (by decide +kernel), wq 406 (by decide +kernel) (by decide +kernel), ⟨by decide +kernel, by decide +kernel, by decide +kernel⟩⟩
abbrev rmX3_in : Room := { frames := 1, cells := 0, slots := 0, locals := 21 }
theorem cal_X3_in : CalV yX3_in cX3_in 2 (some .int) 1 := ⟨wq 436 (by decide +kernel) (by decide +kernel), wq 437 (by decide +kernel) (by decide +kernel), wq 47 (by decide +kernel) (by decide +kernel), wq 438 (by decide +kernel) (by decide +kernel), ⟨by decide +kernel, by decide +kernel, by decide +kernel⟩⟩
abbrev rmX3_parade : Room := { frames := 2, cells := 0, slots := 0, locals := 45 }
theorem cal_X3_parade : CalV yX3_parade cX3_parade 3 (some .int) 1 := ⟨wq 440 (by decide +kernel) (by decide +kernel), wq 441 (by decide +kernel) (by decide +kernel), wq 47 (by decide +kernel) (by decide +kernel), wq 442 (by decide +kernel) (by decide +kernel), ⟨by decide +kernel, by decide +kernel, by decide +kernel⟩⟩
abbrev rmX3_minutes : Room := { frames := 3, cells := 0, slots := 0, locals := 67 }
theorem cal_X3_minutes : CalV yX3_minutes cX3_minutes 5 (some .int) 0 := ⟨wq 449 (by decide +kernel) (by decide +kernel), wq 450 (by decide +kernel) (by decide +kernel), wq 47 (by decide +kernel) (by decide +kernel), wq 451 (by decide +kernel) (by decide +kernel), ⟨by decide +kernel, by decide +kernel, by decide +kernel⟩⟩
abbrev rmX3_open : Room := { frames := 3, cells := 0, slots := 0, locals := 63 }
theorem cal_X3_open : CalV yX3_open cX3_open 6 (some .int) 3 := ⟨wq 455 (by decide +kernel) (by decide +kernel), wq 456 (by decide +kernel) (by decide +kernel), wq 47 (by decide +kernel) (by decide +kernel), wq 457 (by decide +kernel) (by decide +kernel), ⟨by decide +kernel, by decide +kernel, by decide +kernel⟩⟩
abbrev rmX3_within : Room := { frames := 0, cells := 0, slots := 0, locals := 0 }
theorem cal_X3_within : CalS yX3_within cX3_within 3 (some .boolean) 3 := ⟨wq 202 (by decide +kernel) (by decide +kernel), wq 47 (by decide +kernel) (by decide +kernel), wq 203 (by decide +kernel) (by decide +kernel), ⟨by decide +kernel, by decide +kernel, by decide +kernel⟩⟩
abbrev rmX3_isHour : Room := { frames := 1, cells := 0, slots := 0, locals := 22 }
theorem cal_X3_isHour : CalS yX3_isHour cX3_isHour 1 (some .boolean) 1 := ⟨wq 218 (by decide +kernel) (by decide +kernel), wq 47 (by decide +kernel) (by decide +kernel), wq 219 (by decide +kernel) (by decide +kernel), ⟨by decide +kernel, by decide +kernel, by decide +kernel⟩⟩
abbrev rmX3_areHours : Room := { frames := 2, cells := 0, slots := 0, locals := 42 }
theorem cal_X3_areHours : CalS yX3_areHours cX3_areHours 2 (some .boolean) 2 := ⟨wq 215 (by decide +kernel) (by decide +kernel), wq 47 (by decide +kernel) (by decide +kernel), wq 216 (by decide +kernel) (by decide +kernel), ⟨by decide +kernel, by decide +kernel, by decide +kernel⟩⟩
abbrev rmX3_canCross : Room := { frames := 0, cells := 0, slots := 0, locals := 0 }
theorem cal_X3_canCross : CalV yX3_canCross cX3_canCross 4 (some .boolean) 2 := ⟨wq 302 (by decide +kernel) (by decide +kernel), wq 4 (by decide +kernel) (by decide +kernel), wq 47 (by decide +kernel) (by decide +kernel), wq 303 (by decide +kernel) (by decide +kernel), ⟨by decide +kernel, by decide +kernel, by decide +kernel⟩⟩
abbrev rmX3_clearsBridge : Room := { frames := 0, cells := 0, slots := 0, locals := 0 }
theorem cal_X3_clearsBridge : CalV yX3_clearsBridge cX3_clearsBridge 4 (some .boolean) 2 := ⟨wq 306 (by decide +kernel) (by decide +kernel), wq 5 (by decide +kernel) (by decide +kernel), wq 47 (by decide +kernel) (by decide +kernel), wq 307 (by decide +kernel) (by decide +kernel), ⟨by decide +kernel, by decide +kernel, by decide +kernel⟩⟩
abbrev rmX3_hasWayIn : Room := { frames := 1, cells := 0, slots := 0, locals := 23 }
theorem cal_X3_hasWayIn : CalV yX3_hasWayIn cX3_hasWayIn 5 (some .boolean) 3 := ⟨wq 294 (by decide +kernel) (by decide +kernel), wq 3 (by decide +kernel) (by decide +kernel), wq 47 (by decide +kernel) (by decide +kernel), wq 295 (by decide +kernel) (by decide +kernel), ⟨by decide +kernel, by decide +kernel, by decide +kernel⟩⟩
abbrev rmX3_firstWayIn : Room := { frames := 2, cells := 0, slots := 0, locals := 47 }
theorem cal_X3_firstWayIn : CalV yX3_firstWayIn cX3_firstWayIn 5 (some .int) 3 := ⟨wq 290 (by decide +kernel) (by decide +kernel), wq 2 (by decide +kernel) (by decide +kernel), wq 47 (by decide +kernel) (by decide +kernel), wq 291 (by decide +kernel) (by decide +kernel), ⟨by decide +kernel, by decide +kernel, by decide +kernel⟩⟩
abbrev rmX3_isAfloat : Room := { frames := 2, cells := 0, slots := 0, locals := 43 }
theorem cal_X3_isAfloat : CalV yX3_isAfloat cX3_isAfloat 4 (some .boolean) 2 := ⟨wq 318 (by decide +kernel) (by decide +kernel), wq 7 (by decide +kernel) (by decide +kernel), wq 47 (by decide +kernel) (by decide +kernel), wq 319 (by decide +kernel) (by decide +kernel), ⟨by decide +kernel, by decide +kernel, by decide +kernel⟩⟩
abbrev rmX3_hindrance : Room := { frames := 3, cells := 0, slots := 0, locals := 71 }
theorem cal_X3_hindrance : CalV yX3_hindrance cX3_hindrance 4 (some .int) 2 := ⟨wq 314 (by decide +kernel) (by decide +kernel), wq 6 (by decide +kernel) (by decide +kernel), wq 47 (by decide +kernel) (by decide +kernel), wq 315 (by decide +kernel) (by decide +kernel), ⟨by decide +kernel, by decide +kernel, by decide +kernel⟩⟩
abbrev rmX3_isSteep : Room := { frames := 1, cells := 0, slots := 0, locals := 21 }
theorem cal_X3_isSteep : CalV yX3_isSteep cX3_isSteep 4 (some .boolean) 2 := ⟨wq 460 (by decide +kernel) (by decide +kernel), wq 25 (by decide +kernel) (by decide +kernel), wq 47 (by decide +kernel) (by decide +kernel), wq 461 (by decide +kernel) (by decide +kernel), ⟨by decide +kernel, by decide +kernel, by decide +kernel⟩⟩
abbrev rmX3_showOfBerths : Room := { frames := 2, cells := 0, slots := 0, locals := 43 }
theorem cal_X3_showOfBerths : CalV yX3_showOfBerths cX3_showOfBerths 3 (some .int) 0 := ⟨wq 260 (by decide +kernel) (by decide +kernel), wq 0 (by decide +kernel) (by decide +kernel), wq 47 (by decide +kernel) (by decide +kernel), wq 261 (by decide +kernel) (by decide +kernel), ⟨by decide +kernel, by decide +kernel, by decide +kernel⟩⟩
abbrev rmX3_showAt : Room := { frames := 1, cells := 0, slots := 0, locals := 21 }
theorem cal_X3_showAt : CalV yX3_showAt cX3_showAt 3 (some .int) 2 := ⟨wq 264 (by decide +kernel) (by decide +kernel), wq 1 (by decide +kernel) (by decide +kernel), wq 47 (by decide +kernel) (by decide +kernel), wq 265 (by decide +kernel) (by decide +kernel), ⟨by decide +kernel, by decide +kernel, by decide +kernel⟩⟩
abbrev rmX3_firstMisplaced : Room := { frames := 4, cells := 0, slots := 0, locals := 94 }
theorem cal_X3_firstMisplaced : CalV yX3_firstMisplaced cX3_firstMisplaced 3 (some .int) 0 := ⟨wq 330 (by decide +kernel) (by decide +kernel), wq 8 (by decide +kernel) (by decide +kernel), wq 47 (by decide +kernel) (by decide +kernel), wq 331 (by decide +kernel) (by decide +kernel), ⟨by decide +kernel, by decide +kernel, by decide +kernel⟩⟩
abbrev rmX3_firstFouling : Room := { frames := 1, cells := 0, slots := 0, locals := 23 }
theorem cal_X3_firstFouling : CalV yX3_firstFouling cX3_firstFouling 3 (some .int) 0 := ⟨wq 334 (by decide +kernel) (by decide +kernel), wq 9 (by decide +kernel) (by decide +kernel), wq 47 (by decide +kernel) (by decide +kernel), wq 335 (by decide +kernel) (by decide +kernel), ⟨by decide +kernel, by decide +kernel, by decide +kernel⟩⟩
abbrev rmX3_firstTooShort : Room := { frames := 1, cells := 0, slots := 0, locals := 24 }
theorem cal_X3_firstTooShort : CalV yX3_firstTooShort cX3_firstTooShort 2 (some .int) 0 := ⟨wq 342 (by decide +kernel) (by decide +kernel), wq 10 (by decide +kernel) (by decide +kernel), wq 47 (by decide +kernel) (by decide +kernel), wq 343 (by decide +kernel) (by decide +kernel), ⟨by decide +kernel, by decide +kernel, by decide +kernel⟩⟩
abbrev rmX3_roomLeft : Room := { frames := 0, cells := 0, slots := 0, locals := 0 }
theorem cal_X3_roomLeft : CalV yX3_roomLeft cX3_roomLeft 5 (some .int) 1 := ⟨wq 346 (by decide +kernel) (by decide +kernel), wq 11 (by decide +kernel) (by decide +kernel), wq 47 (by decide +kernel) (by decide +kernel), wq 347 (by decide +kernel) (by decide +kernel), ⟨by decide +kernel, by decide +kernel, by decide +kernel⟩⟩
abbrev rmX3_leastBerths : Room := { frames := 5, cells := 0, slots := 0, locals := 124 }
theorem cal_X3_leastBerths : CalV yX3_leastBerths cX3_leastBerths 3 (some .long) 1 := ⟨wq 354 (by decide +kernel) (by decide +kernel), wq 12 (by decide +kernel) (by decide +kernel), wq 47 (by decide +kernel) (by decide +kernel), wq 355 (by decide +kernel) (by decide +kernel), ⟨by decide +kernel, by decide +kernel, by decide +kernel⟩⟩
abbrev rmX3_startIdle : Room := { frames := 3, cells := 0, slots := 0, locals := 74 }
theorem cal_X3_startIdle : CalV yX3_startIdle cX3_startIdle 7 none 1 := ⟨wq 358 (by decide +kernel) (by decide +kernel), wq 13 (by decide +kernel) (by decide +kernel), wq 47 (by decide +kernel) (by decide +kernel), wq 359 (by decide +kernel) (by decide +kernel), ⟨by decide +kernel, by decide +kernel, by decide +kernel⟩⟩
abbrev rmX3_measureSpans : Room := { frames := 0, cells := 0, slots := 0, locals := 0 }
theorem cal_X3_measureSpans : CalV yX3_measureSpans cX3_measureSpans 5 none 0 := ⟨wq 370 (by decide +kernel) (by decide +kernel), wq 15 (by decide +kernel) (by decide +kernel), wq 47 (by decide +kernel) (by decide +kernel), wq 371 (by decide +kernel) (by decide +kernel), ⟨by decide +kernel, by decide +kernel, by decide +kernel⟩⟩
abbrev rmX3_weighSets : Room := { frames := 4, cells := 0, slots := 0, locals := 94 }
theorem cal_X3_weighSets : CalV yX3_weighSets cX3_weighSets 11 none 2 := ⟨wq 374 (by decide +kernel) (by decide +kernel), wq 16 (by decide +kernel) (by decide +kernel), wq 47 (by decide +kernel) (by decide +kernel), wq 375 (by decide +kernel) (by decide +kernel), ⟨by decide +kernel, by decide +kernel, by decide +kernel⟩⟩
abbrev rmX3_offerQuay : Room := { frames := 1, cells := 0, slots := 0, locals := 23 }
theorem cal_X3_offerQuay : CalV yX3_offerQuay cX3_offerQuay 5 none 0 := ⟨wq 379 (by decide +kernel) (by decide +kernel), wq 17 (by decide +kernel) (by decide +kernel), wq 47 (by decide +kernel) (by decide +kernel), wq 380 (by decide +kernel) (by decide +kernel), ⟨by decide +kernel, by decide +kernel, by decide +kernel⟩⟩
abbrev rmX3_berthCost : Room := { frames := 2, cells := 0, slots := 0, locals := 43 }
theorem cal_X3_berthCost : CalV yX3_berthCost cX3_berthCost 12 (some .long) 3 := ⟨wq 362 (by decide +kernel) (by decide +kernel), wq 14 (by decide +kernel) (by decide +kernel), wq 47 (by decide +kernel) (by decide +kernel), wq 363 (by decide +kernel) (by decide +kernel), ⟨by decide +kernel, by decide +kernel, by decide +kernel⟩⟩
abbrev rmX3_berthAll : Room := { frames := 2, cells := 0, slots := 0, locals := 46 }
theorem cal_X3_berthAll : CalV yX3_berthAll cX3_berthAll 7 (some .int) 1 := ⟨wq 390 (by decide +kernel) (by decide +kernel), wq 18 (by decide +kernel) (by decide +kernel), wq 47 (by decide +kernel) (by decide +kernel), wq 391 (by decide +kernel) (by decide +kernel), ⟨by decide +kernel, by decide +kernel, by decide +kernel⟩⟩
abbrev rmX3_lowShift : Room := { frames := 0, cells := 0, slots := 0, locals := 0 }
theorem cal_X3_lowShift : CalS yX3_lowShift cX3_lowShift 2 (some .int) 2 := ⟨wq 366 (by decide +kernel) (by decide +kernel), wq 47 (by decide +kernel) (by decide +kernel), wq 367 (by decide +kernel) (by decide +kernel), ⟨by decide +kernel, by decide +kernel, by decide +kernel⟩⟩
abbrev rmX3_lowChoice : Room := { frames := 1, cells := 0, slots := 0, locals := 21 }
theorem cal_X3_lowChoice : CalS yX3_lowChoice cX3_lowChoice 6 (some .int) 3 := ⟨wq 393 (by decide +kernel) (by decide +kernel), wq 47 (by decide +kernel) (by decide +kernel), wq 394 (by decide +kernel) (by decide +kernel), ⟨by decide +kernel, by decide +kernel, by decide +kernel⟩⟩
abbrev rmX3_leastPlan : Room := { frames := 4, cells := 0, slots := 0, locals := 96 }
theorem cal_X3_leastPlan : CalV yX3_leastPlan cX3_leastPlan 4 (some .long) 1 := ⟨wq 409 (by decide +kernel) (by decide +kernel), wq 19 (by decide +kernel) (by decide +kernel), wq 47 (by decide +kernel) (by decide +kernel), wq 410 (by decide +kernel) (by decide +kernel), ⟨by decide +kernel, by decide +kernel, by decide +kernel⟩⟩
abbrev rmX3_readyAt : Room := { frames := 3, cells := 0, slots := 0, locals := 70 }
theorem cal_X3_readyAt : CalV yX3_readyAt cX3_readyAt 7 (some .int) 2 := ⟨wq 417 (by decide +kernel) (by decide +kernel), wq 20 (by decide +kernel) (by decide +kernel), wq 47 (by decide +kernel) (by decide +kernel), wq 418 (by decide +kernel) (by decide +kernel), ⟨by decide +kernel, by decide +kernel, by decide +kernel⟩⟩
abbrev rmX3_canComeIn : Room := { frames := 2, cells := 0, slots := 0, locals := 47 }
theorem cal_X3_canComeIn : CalV yX3_canComeIn cX3_canComeIn 4 (some .boolean) 2 := ⟨wq 421 (by decide +kernel) (by decide +kernel), wq 21 (by decide +kernel) (by decide +kernel), wq 47 (by decide +kernel) (by decide +kernel), wq 422 (by decide +kernel) (by decide +kernel), ⟨by decide +kernel, by decide +kernel, by decide +kernel⟩⟩
abbrev rmX3_offerHour : Room := { frames := 2, cells := 0, slots := 0, locals := 45 }
theorem cal_X3_offerHour : CalV yX3_offerHour cX3_offerHour 9 none 3 := ⟨wq 425 (by decide +kernel) (by decide +kernel), wq 22 (by decide +kernel) (by decide +kernel), wq 47 (by decide +kernel) (by decide +kernel), wq 426 (by decide +kernel) (by decide +kernel), ⟨by decide +kernel, by decide +kernel, by decide +kernel⟩⟩
abbrev rmX3_hourCost : Room := { frames := 1, cells := 0, slots := 0, locals := 21 }
theorem cal_X3_hourCost : CalV yX3_hourCost cX3_hourCost 5 (some .long) 2 := ⟨wq 429 (by decide +kernel) (by decide +kernel), wq 23 (by decide +kernel) (by decide +kernel), wq 47 (by decide +kernel) (by decide +kernel), wq 430 (by decide +kernel) (by decide +kernel), ⟨by decide +kernel, by decide +kernel, by decide +kernel⟩⟩
abbrev rmX3_keepPlan : Room := { frames := 2, cells := 0, slots := 0, locals := 46 }
theorem cal_X3_keepPlan : CalV yX3_keepPlan cX3_keepPlan 6 none 2 := ⟨wq 433 (by decide +kernel) (by decide +kernel), wq 24 (by decide +kernel) (by decide +kernel), wq 47 (by decide +kernel) (by decide +kernel), wq 434 (by decide +kernel) (by decide +kernel), ⟨by decide +kernel, by decide +kernel, by decide +kernel⟩⟩
abbrev rmX4_init : Room := { frames := 1, cells := 0, slots := 0, locals := 20 }
abbrev rmX4_thrown : Room := { frames := 0, cells := 0, slots := 0, locals := 0 }
theorem cal_X4_thrown : CalV yX4_thrown cX4_thrown 1 (some .int) 0 := ⟨wq 595 (by decide +kernel) (by decide +kernel), wq 596 (by decide +kernel) (by decide +kernel), wq 52 (by decide +kernel) (by decide +kernel), wq 597 (by decide +kernel) (by decide +kernel), ⟨by decide +kernel, by decide +kernel, by decide +kernel⟩⟩
abbrev rmX4_in : Room := { frames := 0, cells := 0, slots := 0, locals := 0 }
theorem cal_X4_in : CalS yX4_in cX4_in 3 (some .boolean) 3 := ⟨wq 603 (by decide +kernel) (by decide +kernel), wq 52 (by decide +kernel) (by decide +kernel), wq 604 (by decide +kernel) (by decide +kernel), ⟨by decide +kernel, by decide +kernel, by decide +kernel⟩⟩
abbrev rmX4_isShip : Room := { frames := 1, cells := 0, slots := 0, locals := 22 }
theorem cal_X4_isShip : CalV yX4_isShip cX4_isShip 2 (some .boolean) 1 := ⟨wq 633 (by decide +kernel) (by decide +kernel), wq 27 (by decide +kernel) (by decide +kernel), wq 52 (by decide +kernel) (by decide +kernel), wq 634 (by decide +kernel) (by decide +kernel), ⟨by decide +kernel, by decide +kernel, by decide +kernel⟩⟩
abbrev rmX4_isQuay : Room := { frames := 1, cells := 0, slots := 0, locals := 22 }
theorem cal_X4_isQuay : CalV yX4_isQuay cX4_isQuay 2 (some .boolean) 1 := ⟨wq 661 (by decide +kernel) (by decide +kernel), wq 31 (by decide +kernel) (by decide +kernel), wq 52 (by decide +kernel) (by decide +kernel), wq 662 (by decide +kernel) (by decide +kernel), ⟨by decide +kernel, by decide +kernel, by decide +kernel⟩⟩
abbrev rmX4_isHour : Room := { frames := 1, cells := 0, slots := 0, locals := 22 }
theorem cal_X4_isHour : CalS yX4_isHour cX4_isHour 1 (some .boolean) 1 := ⟨wq 617 (by decide +kernel) (by decide +kernel), wq 52 (by decide +kernel) (by decide +kernel), wq 618 (by decide +kernel) (by decide +kernel), ⟨by decide +kernel, by decide +kernel, by decide +kernel⟩⟩
abbrev rmX4_tide : Room := { frames := 1, cells := 0, slots := 0, locals := 22 }
theorem cal_X4_tide : CalV yX4_tide cX4_tide 3 (some .boolean) 2 := ⟨wq 599 (by decide +kernel) (by decide +kernel), wq 600 (by decide +kernel) (by decide +kernel), wq 52 (by decide +kernel) (by decide +kernel), wq 601 (by decide +kernel) (by decide +kernel), ⟨by decide +kernel, by decide +kernel, by decide +kernel⟩⟩
abbrev rmX4_mostOf : Room := { frames := 0, cells := 0, slots := 0, locals := 0 }
theorem cal_X4_mostOf : CalS yX4_mostOf cX4_mostOf 1 (some .int) 1 := ⟨wq 610 (by decide +kernel) (by decide +kernel), wq 52 (by decide +kernel) (by decide +kernel), wq 611 (by decide +kernel) (by decide +kernel), ⟨by decide +kernel, by decide +kernel, by decide +kernel⟩⟩
abbrev rmX4_set : Room := { frames := 1, cells := 0, slots := 0, locals := 22 }
theorem cal_X4_set : CalV yX4_set cX4_set 4 (some .int) 2 := ⟨wq 606 (by decide +kernel) (by decide +kernel), wq 607 (by decide +kernel) (by decide +kernel), wq 52 (by decide +kernel) (by decide +kernel), wq 608 (by decide +kernel) (by decide +kernel), ⟨by decide +kernel, by decide +kernel, by decide +kernel⟩⟩
abbrev rmX4_tugs : Room := { frames := 2, cells := 0, slots := 0, locals := 42 }
theorem cal_X4_tugs : CalV yX4_tugs cX4_tugs 5 (some .boolean) 3 := ⟨wq 613 (by decide +kernel) (by decide +kernel), wq 614 (by decide +kernel) (by decide +kernel), wq 52 (by decide +kernel) (by decide +kernel), wq 615 (by decide +kernel) (by decide +kernel), ⟨by decide +kernel, by decide +kernel, by decide +kernel⟩⟩
abbrev rmX4_ship : Room := { frames := 2, cells := 0, slots := 0, locals := 42 }
theorem cal_X4_ship : CalV yX4_ship cX4_ship 10 (some .int) 7 := ⟨wq 620 (by decide +kernel) (by decide +kernel), wq 621 (by decide +kernel) (by decide +kernel), wq 52 (by decide +kernel) (by decide +kernel), wq 622 (by decide +kernel) (by decide +kernel), ⟨by decide +kernel, by decide +kernel, by decide +kernel⟩⟩
abbrev rmX4_quay : Room := { frames := 1, cells := 0, slots := 0, locals := 22 }
theorem cal_X4_quay : CalV yX4_quay cX4_quay 8 (some .int) 5 := ⟨wq 624 (by decide +kernel) (by decide +kernel), wq 625 (by decide +kernel) (by decide +kernel), wq 52 (by decide +kernel) (by decide +kernel), wq 626 (by decide +kernel) (by decide +kernel), ⟨by decide +kernel, by decide +kernel, by decide +kernel⟩⟩
abbrev rmX4_foul : Room := { frames := 2, cells := 0, slots := 0, locals := 43 }
theorem cal_X4_foul : CalV yX4_foul cX4_foul 4 (some .boolean) 3 := ⟨wq 628 (by decide +kernel) (by decide +kernel), wq 629 (by decide +kernel) (by decide +kernel), wq 52 (by decide +kernel) (by decide +kernel), wq 630 (by decide +kernel) (by decide +kernel), ⟨by decide +kernel, by decide +kernel, by decide +kernel⟩⟩
abbrev rmX4_arrives : Room := { frames := 2, cells := 0, slots := 0, locals := 43 }
theorem cal_X4_arrives : CalV yX4_arrives cX4_arrives 4 (some .int) 2 := ⟨wq 636 (by decide +kernel) (by decide +kernel), wq 637 (by decide +kernel) (by decide +kernel), wq 52 (by decide +kernel) (by decide +kernel), wq 638 (by decide +kernel) (by decide +kernel), ⟨by decide +kernel, by decide +kernel, by decide +kernel⟩⟩
abbrev rmX4_least : Room := { frames := 0, cells := 0, slots := 0, locals := 0 }
theorem cal_X4_least : CalV yX4_least cX4_least 3 (some .int) 0 := ⟨wq 669 (by decide +kernel) (by decide +kernel), wq 33 (by decide +kernel) (by decide +kernel), wq 52 (by decide +kernel) (by decide +kernel), wq 670 (by decide +kernel) (by decide +kernel), ⟨by decide +kernel, by decide +kernel, by decide +kernel⟩⟩
abbrev rmX4_greatest : Room := { frames := 0, cells := 0, slots := 0, locals := 0 }
theorem cal_X4_greatest : CalV yX4_greatest cX4_greatest 3 (some .int) 0 := ⟨wq 688 (by decide +kernel) (by decide +kernel), wq 36 (by decide +kernel) (by decide +kernel), wq 52 (by decide +kernel) (by decide +kernel), wq 689 (by decide +kernel) (by decide +kernel), ⟨by decide +kernel, by decide +kernel, by decide +kernel⟩⟩
abbrev rmX4_level : Room := { frames := 0, cells := 0, slots := 0, locals := 0 }
theorem cal_X4_level : CalV yX4_level cX4_level 2 (some .int) 1 := ⟨wq 653 (by decide +kernel) (by decide +kernel), wq 30 (by decide +kernel) (by decide +kernel), wq 52 (by decide +kernel) (by decide +kernel), wq 654 (by decide +kernel) (by decide +kernel), ⟨by decide +kernel, by decide +kernel, by decide +kernel⟩⟩
abbrev rmX4_comes : Room := { frames := 1, cells := 0, slots := 0, locals := 21 }
theorem cal_X4_comes : CalV yX4_comes cX4_comes 4 (some .boolean) 3 := ⟨wq 649 (by decide +kernel) (by decide +kernel), wq 29 (by decide +kernel) (by decide +kernel), wq 52 (by decide +kernel) (by decide +kernel), wq 650 (by decide +kernel) (by decide +kernel), ⟨by decide +kernel, by decide +kernel, by decide +kernel⟩⟩
abbrev rmX4_firstFor : Room := { frames := 2, cells := 0, slots := 0, locals := 44 }
theorem cal_X4_firstFor : CalV yX4_firstFor cX4_firstFor 5 (some .int) 3 := ⟨wq 645 (by decide +kernel) (by decide +kernel), wq 28 (by decide +kernel) (by decide +kernel), wq 52 (by decide +kernel) (by decide +kernel), wq 646 (by decide +kernel) (by decide +kernel), ⟨by decide +kernel, by decide +kernel, by decide +kernel⟩⟩
abbrev rmX4_first : Room := { frames := 3, cells := 0, slots := 0, locals := 68 }
theorem cal_X4_first : CalV yX4_first cX4_first 4 (some .int) 3 := ⟨wq 640 (by decide +kernel) (by decide +kernel), wq 641 (by decide +kernel) (by decide +kernel), wq 52 (by decide +kernel) (by decide +kernel), wq 642 (by decide +kernel) (by decide +kernel), ⟨by decide +kernel, by decide +kernel, by decide +kernel⟩⟩
abbrev rmX4_isAbove : Room := { frames := 0, cells := 0, slots := 0, locals := 0 }
theorem cal_X4_isAbove : CalV yX4_isAbove cX4_isAbove 2 (some .boolean) 1 := ⟨wq 673 (by decide +kernel) (by decide +kernel), wq 34 (by decide +kernel) (by decide +kernel), wq 52 (by decide +kernel) (by decide +kernel), wq 674 (by decide +kernel) (by decide +kernel), ⟨by decide +kernel, by decide +kernel, by decide +kernel⟩⟩
abbrev rmX4_whyNot : Room := { frames := 3, cells := 0, slots := 0, locals := 68 }
theorem cal_X4_whyNot : CalV yX4_whyNot cX4_whyNot 3 (some .int) 2 := ⟨wq 665 (by decide +kernel) (by decide +kernel), wq 32 (by decide +kernel) (by decide +kernel), wq 52 (by decide +kernel) (by decide +kernel), wq 666 (by decide +kernel) (by decide +kernel), ⟨by decide +kernel, by decide +kernel, by decide +kernel⟩⟩
abbrev rmX4_may : Room := { frames := 4, cells := 0, slots := 0, locals := 90 }
theorem cal_X4_may : CalV yX4_may cX4_may 3 (some .int) 2 := ⟨wq 656 (by decide +kernel) (by decide +kernel), wq 657 (by decide +kernel) (by decide +kernel), wq 52 (by decide +kernel) (by decide +kernel), wq 658 (by decide +kernel) (by decide +kernel), ⟨by decide +kernel, by decide +kernel, by decide +kernel⟩⟩
abbrev rmX4_show : Room := { frames := 0, cells := 0, slots := 0, locals := 0 }
theorem cal_X4_show : CalS yX4_show cX4_show 6 (some .int) 4 := ⟨wq 684 (by decide +kernel) (by decide +kernel), wq 52 (by decide +kernel) (by decide +kernel), wq 685 (by decide +kernel) (by decide +kernel), ⟨by decide +kernel, by decide +kernel, by decide +kernel⟩⟩
abbrev rmX4_berthed : Room := { frames := 0, cells := 0, slots := 0, locals := 0 }
theorem cal_X4_berthed : CalV yX4_berthed cX4_berthed 4 (some .int) 1 := ⟨wq 681 (by decide +kernel) (by decide +kernel), wq 35 (by decide +kernel) (by decide +kernel), wq 52 (by decide +kernel) (by decide +kernel), wq 682 (by decide +kernel) (by decide +kernel), ⟨by decide +kernel, by decide +kernel, by decide +kernel⟩⟩
abbrev rmX4_count : Room := { frames := 1, cells := 0, slots := 0, locals := 25 }
theorem cal_X4_count : CalV yX4_count cX4_count 2 (some .int) 1 := ⟨wq 676 (by decide +kernel) (by decide +kernel), wq 677 (by decide +kernel) (by decide +kernel), wq 52 (by decide +kernel) (by decide +kernel), wq 678 (by decide +kernel) (by decide +kernel), ⟨by decide +kernel, by decide +kernel, by decide +kernel⟩⟩
abbrev rmX4_put : Room := { frames := 2, cells := 0, slots := 0, locals := 43 }
theorem cal_X4_put : CalV yX4_put cX4_put 3 (some .boolean) 2 := ⟨wq 691 (by decide +kernel) (by decide +kernel), wq 692 (by decide +kernel) (by decide +kernel), wq 52 (by decide +kernel) (by decide +kernel), wq 693 (by decide +kernel) (by decide +kernel), ⟨by decide +kernel, by decide +kernel, by decide +kernel⟩⟩
abbrev rmX4_at : Room := { frames := 2, cells := 0, slots := 0, locals := 43 }
theorem cal_X4_at : CalV yX4_at cX4_at 2 (some .int) 1 := ⟨wq 695 (by decide +kernel) (by decide +kernel), wq 696 (by decide +kernel) (by decide +kernel), wq 52 (by decide +kernel) (by decide +kernel), wq 697 (by decide +kernel) (by decide +kernel), ⟨by decide +kernel, by decide +kernel, by decide +kernel⟩⟩
abbrev rmX4_room : Room := { frames := 0, cells := 0, slots := 0, locals := 0 }
theorem cal_X4_room : CalV yX4_room cX4_room 6 (some .int) 2 := ⟨wq 708 (by decide +kernel) (by decide +kernel), wq 38 (by decide +kernel) (by decide +kernel), wq 52 (by decide +kernel) (by decide +kernel), wq 709 (by decide +kernel) (by decide +kernel), ⟨by decide +kernel, by decide +kernel, by decide +kernel⟩⟩
abbrev rmX4_why : Room := { frames := 4, cells := 0, slots := 0, locals := 90 }
theorem cal_X4_why : CalV yX4_why cX4_why 4 (some .int) 1 := ⟨wq 704 (by decide +kernel) (by decide +kernel), wq 37 (by decide +kernel) (by decide +kernel), wq 52 (by decide +kernel) (by decide +kernel), wq 705 (by decide +kernel) (by decide +kernel), ⟨by decide +kernel, by decide +kernel, by decide +kernel⟩⟩
abbrev rmX4_wrong : Room := { frames := 5, cells := 0, slots := 0, locals := 113 }
theorem cal_X4_wrong : CalV yX4_wrong cX4_wrong 1 (some .int) 0 := ⟨wq 699 (by decide +kernel) (by decide +kernel), wq 700 (by decide +kernel) (by decide +kernel), wq 52 (by decide +kernel) (by decide +kernel), wq 701 (by decide +kernel) (by decide +kernel), ⟨by decide +kernel, by decide +kernel, by decide +kernel⟩⟩
abbrev rmX4_left : Room := { frames := 2, cells := 0, slots := 0, locals := 43 }
theorem cal_X4_left : CalV yX4_left cX4_left 2 (some .int) 1 := ⟨wq 711 (by decide +kernel) (by decide +kernel), wq 712 (by decide +kernel) (by decide +kernel), wq 52 (by decide +kernel) (by decide +kernel), wq 713 (by decide +kernel) (by decide +kernel), ⟨by decide +kernel, by decide +kernel, by decide +kernel⟩⟩
abbrev rmX4_moved : Room := { frames := 0, cells := 0, slots := 0, locals := 0 }
theorem cal_X4_moved : CalV yX4_moved cX4_moved 4 (some .int) 1 := ⟨wq 728 (by decide +kernel) (by decide +kernel), wq 41 (by decide +kernel) (by decide +kernel), wq 52 (by decide +kernel) (by decide +kernel), wq 729 (by decide +kernel) (by decide +kernel), ⟨by decide +kernel, by decide +kernel, by decide +kernel⟩⟩
abbrev rmX4_isGood : Room := { frames := 1, cells := 0, slots := 0, locals := 25 }
theorem cal_X4_isGood : CalV yX4_isGood cX4_isGood 3 (some .boolean) 0 := ⟨wq 724 (by decide +kernel) (by decide +kernel), wq 40 (by decide +kernel) (by decide +kernel), wq 52 (by decide +kernel) (by decide +kernel), wq 725 (by decide +kernel) (by decide +kernel), ⟨by decide +kernel, by decide +kernel, by decide +kernel⟩⟩
abbrev rmX4_search : Room := { frames := 4, cells := 0, slots := 0, locals := 90 }
theorem cal_X4_search : CalV yX4_search cX4_search 13 none 1 := ⟨wq 720 (by decide +kernel) (by decide +kernel), wq 39 (by decide +kernel) (by decide +kernel), wq 52 (by decide +kernel) (by decide +kernel), wq 721 (by decide +kernel) (by decide +kernel), ⟨by decide +kernel, by decide +kernel, by decide +kernel⟩⟩
abbrev rmX4_best : Room := { frames := 5, cells := 0, slots := 0, locals := 122 }
theorem cal_X4_best : CalV yX4_best cX4_best 2 (some .int) 0 := ⟨wq 715 (by decide +kernel) (by decide +kernel), wq 716 (by decide +kernel) (by decide +kernel), wq 52 (by decide +kernel) (by decide +kernel), wq 717 (by decide +kernel) (by decide +kernel), ⟨by decide +kernel, by decide +kernel, by decide +kernel⟩⟩
abbrev rmX4_mend : Room := { frames := 5, cells := 0, slots := 0, locals := 122 }
theorem cal_X4_mend : CalV yX4_mend cX4_mend 3 (some .int) 0 := ⟨wq 731 (by decide +kernel) (by decide +kernel), wq 732 (by decide +kernel) (by decide +kernel), wq 52 (by decide +kernel) (by decide +kernel), wq 733 (by decide +kernel) (by decide +kernel), ⟨by decide +kernel, by decide +kernel, by decide +kernel⟩⟩
abbrev rmX4_sumOf : Room := { frames := 3, cells := 0, slots := 0, locals := 66 }
theorem cal_X4_sumOf : CalV yX4_sumOf cX4_sumOf 8 (some .int) 0 := ⟨wq 740 (by decide +kernel) (by decide +kernel), wq 42 (by decide +kernel) (by decide +kernel), wq 52 (by decide +kernel) (by decide +kernel), wq 741 (by decide +kernel) (by decide +kernel), ⟨by decide +kernel, by decide +kernel, by decide +kernel⟩⟩
abbrev rmX4_mayCome : Room := { frames := 2, cells := 0, slots := 0, locals := 44 }
theorem cal_X4_mayCome : CalV yX4_mayCome cX4_mayCome 3 (some .boolean) 2 := ⟨wq 745 (by decide +kernel) (by decide +kernel), wq 43 (by decide +kernel) (by decide +kernel), wq 52 (by decide +kernel) (by decide +kernel), wq 746 (by decide +kernel) (by decide +kernel), ⟨by decide +kernel, by decide +kernel, by decide +kernel⟩⟩
abbrev rmX4_plan : Room := { frames := 4, cells := 0, slots := 0, locals := 93 }
theorem cal_X4_plan : CalV yX4_plan cX4_plan 5 (some .int) 0 := ⟨wq 735 (by decide +kernel) (by decide +kernel), wq 736 (by decide +kernel) (by decide +kernel), wq 52 (by decide +kernel) (by decide +kernel), wq 737 (by decide +kernel) (by decide +kernel), ⟨by decide +kernel, by decide +kernel, by decide +kernel⟩⟩
abbrev rmX4_in_ : Room := { frames := 2, cells := 0, slots := 0, locals := 43 }
theorem cal_X4_in_ : CalV yX4_in_ cX4_in_ 2 (some .int) 1 := ⟨wq 748 (by decide +kernel) (by decide +kernel), wq 749 (by decide +kernel) (by decide +kernel), wq 52 (by decide +kernel) (by decide +kernel), wq 750 (by decide +kernel) (by decide +kernel), ⟨by decide +kernel, by decide +kernel, by decide +kernel⟩⟩
abbrev rmX4_isAhead : Room := { frames := 0, cells := 0, slots := 0, locals := 0 }
theorem cal_X4_isAhead : CalV yX4_isAhead cX4_isAhead 5 (some .boolean) 2 := ⟨wq 761 (by decide +kernel) (by decide +kernel), wq 45 (by decide +kernel) (by decide +kernel), wq 52 (by decide +kernel) (by decide +kernel), wq 762 (by decide +kernel) (by decide +kernel), ⟨by decide +kernel, by decide +kernel, by decide +kernel⟩⟩
abbrev rmX4_paradeAt : Room := { frames := 1, cells := 0, slots := 0, locals := 24 }
theorem cal_X4_paradeAt : CalV yX4_paradeAt cX4_paradeAt 5 (some .int) 1 := ⟨wq 757 (by decide +kernel) (by decide +kernel), wq 44 (by decide +kernel) (by decide +kernel), wq 52 (by decide +kernel) (by decide +kernel), wq 758 (by decide +kernel) (by decide +kernel), ⟨by decide +kernel, by decide +kernel, by decide +kernel⟩⟩
abbrev rmX4_parade : Room := { frames := 2, cells := 0, slots := 0, locals := 48 }
theorem cal_X4_parade : CalV yX4_parade cX4_parade 2 (some .int) 1 := ⟨wq 752 (by decide +kernel) (by decide +kernel), wq 753 (by decide +kernel) (by decide +kernel), wq 52 (by decide +kernel) (by decide +kernel), wq 754 (by decide +kernel) (by decide +kernel), ⟨by decide +kernel, by decide +kernel, by decide +kernel⟩⟩
abbrev rmX4_minutes : Room := { frames := 2, cells := 0, slots := 0, locals := 48 }
theorem cal_X4_minutes : CalV yX4_minutes cX4_minutes 5 (some .int) 0 := ⟨wq 764 (by decide +kernel) (by decide +kernel), wq 765 (by decide +kernel) (by decide +kernel), wq 52 (by decide +kernel) (by decide +kernel), wq 766 (by decide +kernel) (by decide +kernel), ⟨by decide +kernel, by decide +kernel, by decide +kernel⟩⟩
abbrev rmX4_open : Room := { frames := 2, cells := 0, slots := 0, locals := 43 }
theorem cal_X4_open : CalV yX4_open cX4_open 6 (some .int) 3 := ⟨wq 768 (by decide +kernel) (by decide +kernel), wq 769 (by decide +kernel) (by decide +kernel), wq 52 (by decide +kernel) (by decide +kernel), wq 770 (by decide +kernel) (by decide +kernel), ⟨by decide +kernel, by decide +kernel, by decide +kernel⟩⟩
abbrev rmJ6_bitCount_0f7a4 : Room := { frames := 0, cells := 0, slots := 0, locals := 0 }
theorem cal_J6_bitCount_0f7a4 : CalS yJ6_bitCount_0f7a4 cJ6_bitCount_0f7a4 1 (some .int) 1 := ⟨wq 253 (by decide +kernel) (by decide +kernel), wq 53 (by decide +kernel) (by decide +kernel), wq 254 (by decide +kernel) (by decide +kernel), ⟨by decide +kernel, by decide +kernel, by decide +kernel⟩⟩
abbrev rmJ9_abs_0f7a4 : Room := { frames := 0, cells := 0, slots := 0, locals := 0 }
theorem cal_J9_abs_0f7a4 : CalS yJ9_abs_0f7a4 cJ9_abs_0f7a4 1 (some .int) 1 := ⟨wq 463 (by decide +kernel) (by decide +kernel), wq 54 (by decide +kernel) (by decide +kernel), wq 464 (by decide +kernel) (by decide +kernel), ⟨by decide +kernel, by decide +kernel, by decide +kernel⟩⟩
abbrev rmJ9_max_7cf53 : Room := { frames := 0, cells := 0, slots := 0, locals := 0 }
theorem cal_J9_max_7cf53 : CalS yJ9_max_7cf53 cJ9_max_7cf53 2 (some .int) 2 := ⟨wq 282 (by decide +kernel) (by decide +kernel), wq 54 (by decide +kernel) (by decide +kernel), wq 283 (by decide +kernel) (by decide +kernel), ⟨by decide +kernel, by decide +kernel, by decide +kernel⟩⟩
abbrev rmJ9_min_7cf53 : Room := { frames := 0, cells := 0, slots := 0, locals := 0 }
theorem cal_J9_min_7cf53 : CalS yJ9_min_7cf53 cJ9_min_7cf53 2 (some .int) 2 := ⟨wq 275 (by decide +kernel) (by decide +kernel), wq 54 (by decide +kernel) (by decide +kernel), wq 276 (by decide +kernel) (by decide +kernel), ⟨by decide +kernel, by decide +kernel, by decide +kernel⟩⟩
abbrev rmJ9_min_f86c9 : Room := { frames := 0, cells := 0, slots := 0, locals := 0 }
theorem cal_J9_min_f86c9 : CalS yJ9_min_f86c9 cJ9_min_f86c9 4 (some .long) 2 := ⟨wq 386 (by decide +kernel) (by decide +kernel), wq 54 (by decide +kernel) (by decide +kernel), wq 387 (by decide +kernel) (by decide +kernel), ⟨by decide +kernel, by decide +kernel, by decide +kernel⟩⟩
abbrev rmJ7_fill_d0a16 : Room := { frames := 0, cells := 0, slots := 0, locals := 0 }
theorem cal_J7_fill_d0a16 : CalS yJ7_fill_d0a16 cJ7_fill_d0a16 5 none 2 := ⟨wq 412 (by decide +kernel) (by decide +kernel), wq 49 (by decide +kernel) (by decide +kernel), wq 413 (by decide +kernel) (by decide +kernel), ⟨by decide +kernel, by decide +kernel, by decide +kernel⟩⟩
abbrev rmJ7_fill_53178 : Room := { frames := 0, cells := 0, slots := 0, locals := 0 }
theorem cal_J7_fill_53178 : CalS yJ7_fill_53178 cJ7_fill_53178 4 none 2 := ⟨wq 74 (by decide +kernel) (by decide +kernel), wq 49 (by decide +kernel) (by decide +kernel), wq 75 (by decide +kernel) (by decide +kernel), ⟨by decide +kernel, by decide +kernel, by decide +kernel⟩⟩
def imax (a b : Int) : Int := if wr a < wr b then b else a
def imin (a b : Int) : Int := if wr b < wr a then b else a
def iabs (a : Int) : Int := if 0 ≤ wr a then a else 0 - a
def lmin (a b : Int) : Int := if wl b < wl a then b else a
theorem jN_lt {a b : Int} : jN a < jN b ↔ wl a < wl b := by unfold wl; exact Int64.lt_iff_toInt_lt
theorem wc_mmax : Cond.code Lib.Math.max.name Lib.Math.max.code 2 (some .int) ∈ Wu := wq 283 (by decide +kernel) (by decide +kernel)
theorem wt_mmax : Cond.static Lib.Math.max.name ∈ Wu := wq 282 (by decide +kernel) (by decide +kernel)
theorem g_mmax {κ : KX} {D : CX} {lay : List Kd} {ad : Nat → Nat} {n1 n2 : Nat} {w : Wd} {pc : Nat} {ls : List (Nat × Value)} {st : List Value} {cc : ByteArray} {own : String} {rm : Room} {lc : Launch} {L : Nat} (X : gX κ D cc own rm lc L) {index : Nat} {a b : Int} (hw : Cond.methodLink own index Lib.Math.max.name ∈ Wu) (hR : 1 ≤ rm.frames ∧ 8 + 13 ≤ rm.locals) (hf : n1 ≤ rm.cells ∧ n2 ≤ rm.slots) (hcat : (st.map fun v => v.category).sum ≤ 8) (hd : decode cc pc = .ok (.invokestatic index, 3)) (k : G κ D lay ad n1 n2 w (pc + 3) ls (iv (imax a b) :: st)) : G κ D lay ad n1 n2 w pc ls (iv b :: iv a :: st) := by
  obtain ⟨p, l, e0, R, s, m, args, below, meth, cd, Q, A, H0, nL⟩ := κ
  obtain ⟨hx, hb, hml, hown, hts, hK, hlocks, hA, rfl, rfl, rfl⟩ := X
  intro H locs la hP hD hS hl
  refine va_mmax hx hb (hml.trans hl.1.symm) hown (hts _ hw) (hts _ wt_mmax) (hts _ (wq 54 (by decide +kernel) (by decide +kernel))) (hts _ wc_mmax) hR.1 (by have := hR.2; omega) hf.1 hf.2 hd ?_
  have e : (if iN a < iN b then iN b else iN a) = iN (imax a b) := by
    unfold imax
    by_cases h : iN a < iN b
    · rw [if_pos h, if_pos (iN_lt.mp h)]
    · rw [if_neg h, if_neg (fun z => h (iN_lt.mpr z))]
  rw [e]
  exact k H locs la hP hD hS hl
theorem wc_mmin : Cond.code Lib.Math.min.name Lib.Math.min.code 2 (some .int) ∈ Wu := wq 276 (by decide +kernel) (by decide +kernel)
theorem wt_mmin : Cond.static Lib.Math.min.name ∈ Wu := wq 275 (by decide +kernel) (by decide +kernel)
theorem g_mmin {κ : KX} {D : CX} {lay : List Kd} {ad : Nat → Nat} {n1 n2 : Nat} {w : Wd} {pc : Nat} {ls : List (Nat × Value)} {st : List Value} {cc : ByteArray} {own : String} {rm : Room} {lc : Launch} {L : Nat} (X : gX κ D cc own rm lc L) {index : Nat} {a b : Int} (hw : Cond.methodLink own index Lib.Math.min.name ∈ Wu) (hR : 1 ≤ rm.frames ∧ 8 + 13 ≤ rm.locals) (hf : n1 ≤ rm.cells ∧ n2 ≤ rm.slots) (hcat : (st.map fun v => v.category).sum ≤ 8) (hd : decode cc pc = .ok (.invokestatic index, 3)) (k : G κ D lay ad n1 n2 w (pc + 3) ls (iv (imin a b) :: st)) : G κ D lay ad n1 n2 w pc ls (iv b :: iv a :: st) := by
  obtain ⟨p, l, e0, R, s, m, args, below, meth, cd, Q, A, H0, nL⟩ := κ
  obtain ⟨hx, hb, hml, hown, hts, hK, hlocks, hA, rfl, rfl, rfl⟩ := X
  intro H locs la hP hD hS hl
  refine va_mmin hx hb (hml.trans hl.1.symm) hown (hts _ hw) (hts _ wt_mmin) (hts _ (wq 54 (by decide +kernel) (by decide +kernel))) (hts _ wc_mmin) hR.1 (by have := hR.2; omega) hf.1 hf.2 hd ?_
  have e : (if iN b < iN a then iN b else iN a) = iN (imin a b) := by
    unfold imin
    by_cases h : iN b < iN a
    · rw [if_pos h, if_pos (iN_lt.mp h)]
    · rw [if_neg h, if_neg (fun z => h (iN_lt.mpr z))]
  rw [e]
  exact k H locs la hP hD hS hl
theorem wc_mminL : Cond.code Lib.MathLoose.min_long.x Lib.MathLoose.min_long.code 4 (some .long) ∈ Wu := wq 387 (by decide +kernel) (by decide +kernel)
theorem wt_mminL : Cond.static Lib.MathLoose.min_long.x ∈ Wu := wq 386 (by decide +kernel) (by decide +kernel)
theorem g_mminL {κ : KX} {D : CX} {lay : List Kd} {ad : Nat → Nat} {n1 n2 : Nat} {w : Wd} {pc : Nat} {ls : List (Nat × Value)} {st : List Value} {cc : ByteArray} {own : String} {rm : Room} {lc : Launch} {L : Nat} (X : gX κ D cc own rm lc L) {index : Nat} {a b : Int} (hw : Cond.methodLink own index Lib.MathLoose.min_long.x ∈ Wu) (hR : 1 ≤ rm.frames ∧ 8 + 15 ≤ rm.locals) (hf : n1 ≤ rm.cells ∧ n2 ≤ rm.slots) (hcat : (st.map fun v => v.category).sum ≤ 8) (hd : decode cc pc = .ok (.invokestatic index, 3)) (k : G κ D lay ad n1 n2 w (pc + 3) ls (jv (lmin a b) :: st)) : G κ D lay ad n1 n2 w pc ls (jv b :: jv a :: st) := by
  obtain ⟨p, l, e0, R, s, m, args, below, meth, cd, Q, A, H0, nL⟩ := κ
  obtain ⟨hx, hb, hml, hown, hts, hK, hlocks, hA, rfl, rfl, rfl⟩ := X
  intro H locs la hP hD hS hl
  refine va_mmin_long hx hb (hml.trans hl.1.symm) hown (hts _ hw) (hts _ wt_mminL) (hts _ (wq 54 (by decide +kernel) (by decide +kernel))) (hts _ wc_mminL) hR.1 (by have := hR.2; omega) hf.1 hf.2 hd ?_
  have e : (if jN b < jN a then jN b else jN a) = jN (lmin a b) := by
    unfold lmin
    by_cases h : jN b < jN a
    · rw [if_pos h, if_pos (jN_lt.mp h)]
    · rw [if_neg h, if_neg (fun z => h (jN_lt.mpr z))]
  rw [e]
  exact k H locs la hP hD hS hl
theorem wc_mabs : Cond.code Lib.Math.abs.name Lib.Math.abs.code 1 (some .int) ∈ Wu := wq 464 (by decide +kernel) (by decide +kernel)
theorem wt_mabs : Cond.static Lib.Math.abs.name ∈ Wu := wq 463 (by decide +kernel) (by decide +kernel)
theorem g_mabs {κ : KX} {D : CX} {lay : List Kd} {ad : Nat → Nat} {n1 n2 : Nat} {w : Wd} {pc : Nat} {ls : List (Nat × Value)} {st : List Value} {cc : ByteArray} {own : String} {rm : Room} {lc : Launch} {L : Nat} (X : gX κ D cc own rm lc L) {index : Nat} {a : Int} (hw : Cond.methodLink own index Lib.Math.abs.name ∈ Wu) (hR : 1 ≤ rm.frames ∧ 8 + 13 ≤ rm.locals) (hf : n1 ≤ rm.cells ∧ n2 ≤ rm.slots) (hcat : (st.map fun v => v.category).sum ≤ 8) (hd : decode cc pc = .ok (.invokestatic index, 3)) (k : G κ D lay ad n1 n2 w (pc + 3) ls (iv (iabs a) :: st)) : G κ D lay ad n1 n2 w pc ls (iv a :: st) := by
  obtain ⟨p, l, e0, R, s, m, args, below, meth, cd, Q, A, H0, nL⟩ := κ
  obtain ⟨hx, hb, hml, hown, hts, hK, hlocks, hA, rfl, rfl, rfl⟩ := X
  intro H locs la hP hD hS hl
  refine va_mabs hx hb (hml.trans hl.1.symm) hown (hts _ hw) (hts _ wt_mabs) (hts _ (wq 54 (by decide +kernel) (by decide +kernel))) (hts _ wc_mabs) hR.1 (by have := hR.2; omega) hf.1 hf.2 hd ?_
  have e : (if 0 ≤ iN a then iN a else 0 - iN a) = iN (iabs a) := by
    unfold iabs
    by_cases h : 0 ≤ iN a
    · rw [if_pos h, if_pos (i0ge.mp h)]
    · rw [if_neg h, if_neg (fun z => h (i0ge.mpr z)), ← iN_0, iN_sub]
  rw [e]
  exact k H locs la hP hD hS hl

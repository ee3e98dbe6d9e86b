/-! TallShips$Fleet.has -/
noncomputable def fl_has (x1 : Int) (w : Wd) : Option (Int × Wd) :=
  (if wr x1 < 0 then
    some (0, w)
  else
    (if wr (w 5 0) ≤ wr x1 then
      some (0, w)
    else
      some (1, w)))
theorem mc_fl_has {lc : Launch} {D : CX} {ad : Nat → Nat} {w : Wd} {x1 : Int} {v : Int × Wd} (h : fl_has x1 w = some v) : Mc lc yX0_has cX0_has 2 (some .boolean) rmX0_has D LAY ad [.ref (ad 5), iv x1] w (some (iv v.1)) v.2 0 0 := by
  refine mc_of (by decide) (Nat.le_of_ble_eq_true rfl) ?_
  intro κ X Z
  show G κ D LAY ad 0 0 w 0 [(0, .ref (ad 5)), (1, iv x1)] []
  unfold fl_has at h
  refine g_iload_n X 1 dX0_has_0 rfl rfl ?_
  refine g_if_lt X h dX0_has_1 (tgt := 16) (by decide) (fun h => ?_) (fun h => ?_)
  · refine g_iconst X dX0_has_16 ?_
    exact g_zretC X Z h (by decide) dX0_has_17
  · refine g_iload_n X 1 dX0_has_4 rfl rfl ?_
    refine g_aload_n X 0 dX0_has_5 rfl rfl ?_
    refine gf_X0_9 X dX0_has_6 ?_
    refine g_icmp_ge X h dX0_has_9 (tgt := 16) (by decide) (fun h => ?_) (fun h => ?_)
    · refine g_iconst X dX0_has_16 ?_
      exact g_zretC X Z h (by decide) dX0_has_17
    · refine g_iconst X dX0_has_12 ?_
      refine g_goto X (tgt := 17) dX0_has_13 (by decide) ?_
      exact g_zretC X Z h (by decide) dX0_has_17

/-! TallShips$Fleet.all -/
noncomputable def fl_all (w : Wd) : Option (Int × Wd) :=
  some (((bshl 1 (w 5 0)) - 1), w)
theorem mc_fl_all {lc : Launch} {D : CX} {ad : Nat → Nat} {w : Wd} {v : Int × Wd} (h : fl_all w = some v) : Mc lc yX0_all cX0_all 1 (some .int) rmX0_all D LAY ad [.ref (ad 5)] w (some (iv v.1)) v.2 0 0 := by
  refine mc_of (by decide) (Nat.le_of_ble_eq_true rfl) ?_
  intro κ X Z
  show G κ D LAY ad 0 0 w 0 [(0, .ref (ad 5))] []
  unfold fl_all at h
  refine g_iconst X dX0_all_0 ?_
  refine g_aload_n X 0 dX0_all_1 rfl rfl ?_
  refine gf_X0_9 X dX0_all_2 ?_
  refine g_ishl X dX0_all_5 ?_
  refine g_iconst X dX0_all_6 ?_
  refine g_isub X dX0_all_7 ?_
  exact g_iret X Z h dX0_all_8

/-! TallShips$Fleet.isBerthed -/
noncomputable def fl_isBerthed (x1 : Int) (w : Wd) : Option (Int × Wd) :=
  (if 0 ≤ x1 ∧ x1 < 7 then
  (if wr (w 14 x1.toNat) = wr (-1) then
    some (0, w)
  else
    some (1, w))
  else none)
theorem mc_fl_isBerthed {lc : Launch} {D : CX} {ad : Nat → Nat} {w : Wd} {x1 : Int} {v : Int × Wd} (h : fl_isBerthed x1 w = some v) : Mc lc yX0_isBerthed cX0_isBerthed 2 (some .boolean) rmX0_isBerthed D LAY ad [.ref (ad 5), iv x1] w (some (iv v.1)) v.2 0 0 := by
  refine mc_of (by decide) (Nat.le_of_ble_eq_true rfl) ?_
  intro κ X Z
  show G κ D LAY ad 0 0 w 0 [(0, .ref (ad 5)), (1, iv x1)] []
  unfold fl_isBerthed at h
  refine g_aload_n X 0 dX0_isBerthed_0 rfl rfl ?_
  refine gf_X0_40 X dX0_isBerthed_1 ?_
  refine g_iload_n X 1 dX0_isBerthed_4 rfl rfl ?_
  refine g_iald X (n := 7) (c := 14) h rfl (by decide) dX0_isBerthed_5 (fun h => ?_)
  refine g_iconst X dX0_isBerthed_6 ?_
  refine g_icmp_eq X h dX0_isBerthed_7 (tgt := 14) (by decide) (fun h => ?_) (fun h => ?_)
  · refine g_iconst X dX0_isBerthed_14 ?_
    exact g_zretC X Z h (by decide) dX0_isBerthed_15
  · refine g_iconst X dX0_isBerthed_10 ?_
    refine g_goto X (tgt := 15) dX0_isBerthed_11 (by decide) ?_
    exact g_zretC X Z h (by decide) dX0_isBerthed_15

/-! TallShips$Fleet.berthed -/
noncomputable def fl_berthed_4 : Nat → Int → Int → Wd → Option (Int × Wd)
  | 0, _, _, _ => none
  | n + 1, x1, x2, w =>
    (if wr (w 5 0) ≤ wr x2 then
      some (x1, w)
    else
      ((fl_isBerthed x2 w).bind fun q14 =>
      (if wr q14.1 = 0 then
        (fl_berthed_4 n x1 (x2 + 1) q14.2)
      else
        (fl_berthed_4 n (bor x1 (bshl 1 x2)) (x2 + 1) q14.2))))
theorem fl_berthed_4_ok {lc : Launch} {κ : KX} {D : CX} {ad : Nat → Nat} {v : Int × Wd} (X : gX κ D cX0_berthed RX0 rmX0_berthed lc 3) (Z : gQ κ D LAY ad (some .int) (some (iv v.1)) v.2 0 0) : ∀ (n : Nat) (x1 : Int) (x2 : Int) (w : Wd), fl_berthed_4 n x1 x2 w = some v → G κ D LAY ad 0 0 w 4 [(0, .ref (ad 5)), (1, iv x1), (2, iv x2)] [] := by
  intro n
  induction n with
  | zero =>
    intro x1 x2 w h
    cases h
  | succ n ih =>
    intro x1 x2 w h
    rw [fl_berthed_4] at h
    refine g_iload_n X 2 dX0_berthed_4 rfl rfl ?_
    refine g_aload_n X 0 dX0_berthed_5 rfl rfl ?_
    refine gf_X0_9 X dX0_berthed_6 ?_
    refine g_icmp_ge X h dX0_berthed_9 (tgt := 32) (by decide) (fun h => ?_) (fun h => ?_)
    · refine g_iload_n X 1 dX0_berthed_32 rfl rfl ?_
      exact g_iret X Z h dX0_berthed_33
    · refine g_aload_n X 0 dX0_berthed_12 rfl rfl ?_
      refine g_iload_n X 2 dX0_berthed_13 rfl rfl ?_
      obtain ⟨q14, e14, h⟩ := bindE h
      refine g_callVi X (st := []) 5 [iv x2] (mc_fl_isBerthed e14) cal_X0_isBerthed rfl rfl wm_X0_52 (by decide) rfl rfl ⟨by decide, by decide⟩ rfl (Nat.le_of_ble_eq_true rfl) dX0_berthed_14 ?_
      refine g_if_eq X h dX0_berthed_17 (tgt := 26) (by decide) (fun h => ?_) (fun h => ?_)
      · refine g_iinc X 2 [1, 2, 0] (ls1 := [(0, .ref (ad 5)), (1, iv x1), (2, iv (x2 + 1))]) dX0_berthed_26 rfl (by decide) rfl ?_
        refine g_goto X (tgt := 4) dX0_berthed_29 (by decide) ?_
        exact ih x1 (x2 + 1) q14.2 h
      · refine g_iload_n X 1 dX0_berthed_20 rfl rfl ?_
        refine g_iconst X dX0_berthed_21 ?_
        refine g_iload_n X 2 dX0_berthed_22 rfl rfl ?_
        refine g_ishl X dX0_berthed_23 ?_
        refine g_ior X dX0_berthed_24 ?_
        refine g_istore_n X [1, 0, 2] (ls1 := [(0, .ref (ad 5)), (1, iv (bor x1 (bshl 1 x2))), (2, iv x2)]) dX0_berthed_25 rfl (by decide) rfl ?_
        refine g_iinc X 2 [1, 2, 0] (ls1 := [(0, .ref (ad 5)), (1, iv (bor x1 (bshl 1 x2))), (2, iv (x2 + 1))]) dX0_berthed_26 rfl (by decide) rfl ?_
        refine g_goto X (tgt := 4) dX0_berthed_29 (by decide) ?_
        exact ih (bor x1 (bshl 1 x2)) (x2 + 1) q14.2 h
noncomputable def fl_berthed (w : Wd) : Option (Int × Wd) :=
  (fl_berthed_4 FU 0 0 w)
theorem mc_fl_berthed {lc : Launch} {D : CX} {ad : Nat → Nat} {w : Wd} {v : Int × Wd} (h : fl_berthed w = some v) : Mc lc yX0_berthed cX0_berthed 3 (some .int) rmX0_berthed D LAY ad [.ref (ad 5)] w (some (iv v.1)) v.2 0 0 := by
  refine mc_of (by decide) (Nat.le_of_ble_eq_true rfl) ?_
  intro κ X Z
  show G κ D LAY ad 0 0 w 0 [(0, .ref (ad 5))] []
  unfold fl_berthed at h
  refine g_iconst X dX0_berthed_0 ?_
  refine g_istore_n X [1, 0] (ls1 := [(0, .ref (ad 5)), (1, iv 0)]) dX0_berthed_1 rfl (by decide) rfl ?_
  refine g_iconst X dX0_berthed_2 ?_
  refine g_istore_n X [1, 2, 0] (ls1 := [(0, .ref (ad 5)), (1, iv 0), (2, iv 0)]) dX0_berthed_3 rfl (by decide) rfl ?_
  refine fl_berthed_4_ok X Z FU 0 0 w h

/-! TallShips$Fleet.berthedAt -/
noncomputable def fl_berthedAt_4 (x1 : Int) : Nat → Int → Int → Wd → Option (Int × Wd)
  | 0, _, _, _ => none
  | n + 1, x2, x3, w =>
    (if wr (w 5 0) ≤ wr x3 then
      some (x2, w)
    else
      (if 0 ≤ x3 ∧ x3 < 7 then
      (if wr (w 14 x3.toNat) = wr x1 then
        (fl_berthedAt_4 x1 n (bor x2 (bshl 1 x3)) (x3 + 1) w)
      else
        (fl_berthedAt_4 x1 n x2 (x3 + 1) w))
      else none))
theorem fl_berthedAt_4_ok {lc : Launch} {κ : KX} {D : CX} {ad : Nat → Nat} {x1 : Int} {v : Int × Wd} (X : gX κ D cX0_berthedAt RX0 rmX0_berthedAt lc 4) (Z : gQ κ D LAY ad (some .int) (some (iv v.1)) v.2 0 0) : ∀ (n : Nat) (x2 : Int) (x3 : Int) (w : Wd), fl_berthedAt_4 x1 n x2 x3 w = some v → G κ D LAY ad 0 0 w 4 [(0, .ref (ad 5)), (1, iv x1), (2, iv x2), (3, iv x3)] [] := by
  intro n
  induction n with
  | zero =>
    intro x2 x3 w h
    cases h
  | succ n ih =>
    intro x2 x3 w h
    rw [fl_berthedAt_4] at h
    refine g_iload_n X 3 dX0_berthedAt_4 rfl rfl ?_
    refine g_aload_n X 0 dX0_berthedAt_5 rfl rfl ?_
    refine gf_X0_9 X dX0_berthedAt_6 ?_
    refine g_icmp_ge X h dX0_berthedAt_9 (tgt := 34) (by decide) (fun h => ?_) (fun h => ?_)
    · refine g_iload_n X 2 dX0_berthedAt_34 rfl rfl ?_
      exact g_iret X Z h dX0_berthedAt_35
    · refine g_aload_n X 0 dX0_berthedAt_12 rfl rfl ?_
      refine gf_X0_40 X dX0_berthedAt_13 ?_
      refine g_iload_n X 3 dX0_berthedAt_16 rfl rfl ?_
      refine g_iald X (n := 7) (c := 14) h rfl (by decide) dX0_berthedAt_17 (fun h => ?_)
      refine g_iload_n X 1 dX0_berthedAt_18 rfl rfl ?_
      refine g_icmp_ne X h dX0_berthedAt_19 (tgt := 28) (by decide) (fun h => ?_) (fun h => ?_)
      · refine g_iinc X 3 [1, 2, 3, 0] (ls1 := [(0, .ref (ad 5)), (1, iv x1), (2, iv x2), (3, iv (x3 + 1))]) dX0_berthedAt_28 rfl (by decide) rfl ?_
        refine g_goto X (tgt := 4) dX0_berthedAt_31 (by decide) ?_
        exact ih x2 (x3 + 1) w h
      · refine g_iload_n X 2 dX0_berthedAt_22 rfl rfl ?_
        refine g_iconst X dX0_berthedAt_23 ?_
        refine g_iload_n X 3 dX0_berthedAt_24 rfl rfl ?_
        refine g_ishl X dX0_berthedAt_25 ?_
        refine g_ior X dX0_berthedAt_26 ?_
        refine g_istore_n X [1, 2, 0, 3] (ls1 := [(0, .ref (ad 5)), (1, iv x1), (2, iv (bor x2 (bshl 1 x3))), (3, iv x3)]) dX0_berthedAt_27 rfl (by decide) rfl ?_
        refine g_iinc X 3 [1, 2, 3, 0] (ls1 := [(0, .ref (ad 5)), (1, iv x1), (2, iv (bor x2 (bshl 1 x3))), (3, iv (x3 + 1))]) dX0_berthedAt_28 rfl (by decide) rfl ?_
        refine g_goto X (tgt := 4) dX0_berthedAt_31 (by decide) ?_
        exact ih (bor x2 (bshl 1 x3)) (x3 + 1) w h
noncomputable def fl_berthedAt (x1 : Int) (w : Wd) : Option (Int × Wd) :=
  (fl_berthedAt_4 x1 FU 0 0 w)
theorem mc_fl_berthedAt {lc : Launch} {D : CX} {ad : Nat → Nat} {w : Wd} {x1 : Int} {v : Int × Wd} (h : fl_berthedAt x1 w = some v) : Mc lc yX0_berthedAt cX0_berthedAt 4 (some .int) rmX0_berthedAt D LAY ad [.ref (ad 5), iv x1] w (some (iv v.1)) v.2 0 0 := by
  refine mc_of (by decide) (Nat.le_of_ble_eq_true rfl) ?_
  intro κ X Z
  show G κ D LAY ad 0 0 w 0 [(0, .ref (ad 5)), (1, iv x1)] []
  unfold fl_berthedAt at h
  refine g_iconst X dX0_berthedAt_0 ?_
  refine g_istore_n X [1, 2, 0] (ls1 := [(0, .ref (ad 5)), (1, iv x1), (2, iv 0)]) dX0_berthedAt_1 rfl (by decide) rfl ?_
  refine g_iconst X dX0_berthedAt_2 ?_
  refine g_istore_n X [1, 2, 3, 0] (ls1 := [(0, .ref (ad 5)), (1, iv x1), (2, iv 0), (3, iv 0)]) dX0_berthedAt_3 rfl (by decide) rfl ?_
  refine fl_berthedAt_4_ok X Z FU 0 0 w h

/-! TallShips$Fleet.aheadOf -/
noncomputable def fl_aheadOf_4 (x1 : Int) : Nat → Int → Int → Wd → Option (Int × Wd)
  | 0, _, _, _ => none
  | n + 1, x2, x3, w =>
    (if wr (w 5 0) ≤ wr x3 then
      some (x2, w)
    else
      (if 0 ≤ x3 ∧ x3 < 7 then
      (if 0 ≤ x1 ∧ x1 < 7 then
      (let j52 := fun (z52_0 : Int) => 
          ((fl_isBerthed x3 w).bind fun q56 =>
          (if wr q56.1 = 0 then
            (fl_aheadOf_4 x1 n x2 (x3 + 1) q56.2)
          else
            (if wr z52_0 = 0 then
              (fl_aheadOf_4 x1 n x2 (x3 + 1) q56.2)
            else
              (fl_aheadOf_4 x1 n (x2 + 1) (x3 + 1) q56.2))))
      let j47 := fun (_ : Unit) => 
          (j52 1)
      (if wr (w 9 x1.toNat) < wr (w 9 x3.toNat) then
        (j47 ())
      else
        (if 0 ≤ x3 ∧ x3 < 7 then
        (if 0 ≤ x1 ∧ x1 < 7 then
        (if wr (w 9 x3.toNat) = wr (w 9 x1.toNat) then
          (if wr x1 ≤ wr x3 then
            (j52 0)
          else
            (j47 ()))
        else
          (j52 0))
        else none)
        else none)))
      else none)
      else none))
theorem fl_aheadOf_4_ok {lc : Launch} {κ : KX} {D : CX} {ad : Nat → Nat} {x1 : Int} {v : Int × Wd} (X : gX κ D cX0_aheadOf RX0 rmX0_aheadOf lc 5) (Z : gQ κ D LAY ad (some .int) (some (iv v.1)) v.2 0 0) : ∀ (n : Nat) (x2 : Int) (x3 : Int) (w : Wd), fl_aheadOf_4 x1 n x2 x3 w = some v → G κ D LAY ad 0 0 w 4 [(0, .ref (ad 5)), (1, iv x1), (2, iv x2), (3, iv x3)] [] := by
  intro n
  induction n with
  | zero =>
    intro x2 x3 w h
    cases h
  | succ n ih =>
    intro x2 x3 w h
    rw [fl_aheadOf_4] at h
    refine g_iload_n X 3 dX0_aheadOf_4 rfl rfl ?_
    refine g_aload_n X 0 dX0_aheadOf_5 rfl rfl ?_
    refine gf_X0_9 X dX0_aheadOf_6 ?_
    refine g_icmp_ge X h dX0_aheadOf_9 (tgt := 76) (by decide) (fun h => ?_) (fun h => ?_)
    · refine g_iload_n X 2 dX0_aheadOf_76 rfl rfl ?_
      exact g_iret X Z h dX0_aheadOf_77
    · refine g_aload_n X 0 dX0_aheadOf_12 rfl rfl ?_
      refine gf_X0_25 X dX0_aheadOf_13 ?_
      refine g_iload_n X 3 dX0_aheadOf_16 rfl rfl ?_
      refine g_iald X (n := 7) (c := 9) h rfl (by decide) dX0_aheadOf_17 (fun h => ?_)
      refine g_aload_n X 0 dX0_aheadOf_18 rfl rfl ?_
      refine gf_X0_25 X dX0_aheadOf_19 ?_
      refine g_iload_n X 1 dX0_aheadOf_22 rfl rfl ?_
      refine g_iald X (n := 7) (c := 9) h rfl (by decide) dX0_aheadOf_23 (fun h => ?_)
      let j52 := fun (z52_0 : Int) => (((fl_isBerthed x3 w).bind fun q56 =>
      (if wr q56.1 = 0 then
        (fl_aheadOf_4 x1 n x2 (x3 + 1) q56.2)
      else
        (if wr z52_0 = 0 then
          (fl_aheadOf_4 x1 n x2 (x3 + 1) q56.2)
        else
          (fl_aheadOf_4 x1 n (x2 + 1) (x3 + 1) q56.2)))))
      have J52 : ∀ (z52_0 : Int), (((fl_isBerthed x3 w).bind fun q56 =>
      (if wr q56.1 = 0 then
        (fl_aheadOf_4 x1 n x2 (x3 + 1) q56.2)
      else
        (if wr z52_0 = 0 then
          (fl_aheadOf_4 x1 n x2 (x3 + 1) q56.2)
        else
          (fl_aheadOf_4 x1 n (x2 + 1) (x3 + 1) q56.2))))) = some v → G κ D LAY ad 0 0 w 52 [(0, .ref (ad 5)), (1, iv x1), (2, iv x2), (3, iv x3)] [iv z52_0] := by
        intro z52_0 h
        refine g_istore X [1, 2, 3, 4, 0] (ls1 := [(0, .ref (ad 5)), (1, iv x1), (2, iv x2), (3, iv x3), (4, iv z52_0)]) dX0_aheadOf_52 (by decide) rfl ?_
        refine g_aload_n X 0 dX0_aheadOf_54 rfl rfl ?_
        refine g_iload_n X 3 dX0_aheadOf_55 rfl rfl ?_
        obtain ⟨q56, e56, h⟩ := bindE h
        refine g_callVi X (st := []) 5 [iv x3] (mc_fl_isBerthed e56) cal_X0_isBerthed rfl rfl wm_X0_52 (by decide) rfl rfl ⟨by decide, by decide⟩ rfl (Nat.le_of_ble_eq_true rfl) dX0_aheadOf_56 ?_
        refine g_if_eq X h dX0_aheadOf_59 (tgt := 70) (by decide) (fun h => ?_) (fun h => ?_)
        · refine g_iinc X 3 [1, 2, 3, 0, 4] (ls1 := [(0, .ref (ad 5)), (1, iv x1), (2, iv x2), (3, iv (x3 + 1)), (4, iv z52_0)]) dX0_aheadOf_70 rfl (by decide) rfl ?_
          refine g_goto X (tgt := 4) dX0_aheadOf_73 (by decide) ?_
          refine g_sub [0, 1, 2, 3] rfl ?_
          exact ih x2 (x3 + 1) q56.2 h
        · refine g_iload X 4 dX0_aheadOf_62 rfl ?_
          refine g_if_eq X h dX0_aheadOf_64 (tgt := 70) (by decide) (fun h => ?_) (fun h => ?_)
          · refine g_iinc X 3 [1, 2, 3, 0, 4] (ls1 := [(0, .ref (ad 5)), (1, iv x1), (2, iv x2), (3, iv (x3 + 1)), (4, iv z52_0)]) dX0_aheadOf_70 rfl (by decide) rfl ?_
            refine g_goto X (tgt := 4) dX0_aheadOf_73 (by decide) ?_
            refine g_sub [0, 1, 2, 3] rfl ?_
            exact ih x2 (x3 + 1) q56.2 h
          · refine g_iinc X 2 [1, 2, 0, 3, 4] (ls1 := [(0, .ref (ad 5)), (1, iv x1), (2, iv (x2 + 1)), (3, iv x3), (4, iv z52_0)]) dX0_aheadOf_67 rfl (by decide) rfl ?_
            refine g_iinc X 3 [1, 2, 3, 0, 4] (ls1 := [(0, .ref (ad 5)), (1, iv x1), (2, iv (x2 + 1)), (3, iv (x3 + 1)), (4, iv z52_0)]) dX0_aheadOf_70 rfl (by decide) rfl ?_
            refine g_goto X (tgt := 4) dX0_aheadOf_73 (by decide) ?_
            refine g_sub [0, 1, 2, 3] rfl ?_
            exact ih (x2 + 1) (x3 + 1) q56.2 h
      let j47 := fun (_ : Unit) => ((j52 1))
      have J47 : ∀ (_u : Unit), ((j52 1)) = some v → G κ D LAY ad 0 0 w 47 [(0, .ref (ad 5)), (1, iv x1), (2, iv x2), (3, iv x3)] [] := by
        intro _u h
        refine g_iconst X dX0_aheadOf_47 ?_
        refine g_goto X (tgt := 52) dX0_aheadOf_48 (by decide) ?_
        exact J52 1 h
      refine g_icmp_gt X h dX0_aheadOf_24 (tgt := 47) (by decide) (fun h => ?_) (fun h => ?_)
      · exact J47 () h
      · refine g_aload_n X 0 dX0_aheadOf_27 rfl rfl ?_
        refine gf_X0_25 X dX0_aheadOf_28 ?_
        refine g_iload_n X 3 dX0_aheadOf_31 rfl rfl ?_
        refine g_iald X (n := 7) (c := 9) h rfl (by decide) dX0_aheadOf_32 (fun h => ?_)
        refine g_aload_n X 0 dX0_aheadOf_33 rfl rfl ?_
        refine gf_X0_25 X dX0_aheadOf_34 ?_
        refine g_iload_n X 1 dX0_aheadOf_37 rfl rfl ?_
        refine g_iald X (n := 7) (c := 9) h rfl (by decide) dX0_aheadOf_38 (fun h => ?_)
        refine g_icmp_ne X h dX0_aheadOf_39 (tgt := 51) (by decide) (fun h => ?_) (fun h => ?_)
        · refine g_iconst X dX0_aheadOf_51 ?_
          exact J52 0 h
        · refine g_iload_n X 3 dX0_aheadOf_42 rfl rfl ?_
          refine g_iload_n X 1 dX0_aheadOf_43 rfl rfl ?_
          refine g_icmp_ge X h dX0_aheadOf_44 (tgt := 51) (by decide) (fun h => ?_) (fun h => ?_)
          · refine g_iconst X dX0_aheadOf_51 ?_
            exact J52 0 h
          · exact J47 () h
noncomputable def fl_aheadOf (x1 : Int) (w : Wd) : Option (Int × Wd) :=
  (fl_aheadOf_4 x1 FU 0 0 w)
theorem mc_fl_aheadOf {lc : Launch} {D : CX} {ad : Nat → Nat} {w : Wd} {x1 : Int} {v : Int × Wd} (h : fl_aheadOf x1 w = some v) : Mc lc yX0_aheadOf cX0_aheadOf 5 (some .int) rmX0_aheadOf D LAY ad [.ref (ad 5), iv x1] w (some (iv v.1)) v.2 0 0 := by
  refine mc_of (by decide) (Nat.le_of_ble_eq_true rfl) ?_
  intro κ X Z
  show G κ D LAY ad 0 0 w 0 [(0, .ref (ad 5)), (1, iv x1)] []
  unfold fl_aheadOf at h
  refine g_iconst X dX0_aheadOf_0 ?_
  refine g_istore_n X [1, 2, 0] (ls1 := [(0, .ref (ad 5)), (1, iv x1), (2, iv 0)]) dX0_aheadOf_1 rfl (by decide) rfl ?_
  refine g_iconst X dX0_aheadOf_2 ?_
  refine g_istore_n X [1, 2, 3, 0] (ls1 := [(0, .ref (ad 5)), (1, iv x1), (2, iv 0), (3, iv 0)]) dX0_aheadOf_3 rfl (by decide) rfl ?_
  refine fl_aheadOf_4_ok X Z FU 0 0 w h

/-! TallShips$Quays.has -/
noncomputable def qy_has (x1 : Int) (w : Wd) : Option (Int × Wd) :=
  (if wr x1 < 0 then
    some (0, w)
  else
    (if wr (w 16 0) ≤ wr x1 then
      some (0, w)
    else
      some (1, w)))
theorem mc_qy_has {lc : Launch} {D : CX} {ad : Nat → Nat} {w : Wd} {x1 : Int} {v : Int × Wd} (h : qy_has x1 w = some v) : Mc lc yX1_has cX1_has 2 (some .boolean) rmX1_has D LAY ad [.ref (ad 16), iv x1] w (some (iv v.1)) v.2 0 0 := by
  refine mc_of (by decide) (Nat.le_of_ble_eq_true rfl) ?_
  intro κ X Z
  show G κ D LAY ad 0 0 w 0 [(0, .ref (ad 16)), (1, iv x1)] []
  unfold qy_has at h
  refine g_iload_n X 1 dX1_has_0 rfl rfl ?_
  refine g_if_lt X h dX1_has_1 (tgt := 16) (by decide) (fun h => ?_) (fun h => ?_)
  · refine g_iconst X dX1_has_16 ?_
    exact g_zretC X Z h (by decide) dX1_has_17
  · refine g_iload_n X 1 dX1_has_4 rfl rfl ?_
    refine g_aload_n X 0 dX1_has_5 rfl rfl ?_
    refine gf_X1_9 X dX1_has_6 ?_
    refine g_icmp_ge X h dX1_has_9 (tgt := 16) (by decide) (fun h => ?_) (fun h => ?_)
    · refine g_iconst X dX1_has_16 ?_
      exact g_zretC X Z h (by decide) dX1_has_17
    · refine g_iconst X dX1_has_12 ?_
      refine g_goto X (tgt := 17) dX1_has_13 (by decide) ?_
      exact g_zretC X Z h (by decide) dX1_has_17

/-! TallShips$River.levelAt -/
noncomputable def rv_levelAt (x1 : Int) (w : Wd) : Option (Int × Wd) :=
  (if 0 ≤ (brem x1 12) ∧ (brem x1 12) < 12 then
  some ((w 2 (brem x1 12).toNat), w)
  else none)
theorem mc_rv_levelAt {lc : Launch} {D : CX} {ad : Nat → Nat} {w : Wd} {x1 : Int} {v : Int × Wd} (h : rv_levelAt x1 w = some v) : Mc lc yX2_levelAt cX2_levelAt 2 (some .int) rmX2_levelAt D LAY ad [.ref (ad 1), iv x1] w (some (iv v.1)) v.2 0 0 := by
  refine mc_of (by decide) (Nat.le_of_ble_eq_true rfl) ?_
  intro κ X Z
  show G κ D LAY ad 0 0 w 0 [(0, .ref (ad 1)), (1, iv x1)] []
  unfold rv_levelAt at h
  refine g_aload_n X 0 dX2_levelAt_0 rfl rfl ?_
  refine gf_X2_9 X dX2_levelAt_1 ?_
  refine g_iload_n X 1 dX2_levelAt_4 rfl rfl ?_
  refine g_bipush X 12 dX2_levelAt_5 (by decide) ?_
  refine g_iremC X (by decide) dX2_levelAt_7 ?_
  refine g_iald X (n := 12) (c := 2) h rfl (by decide) dX2_levelAt_8 (fun h => ?_)
  exact g_iret X Z h dX2_levelAt_9

/-! TallShips$River.leastLevel -/
noncomputable def rv_leastLevel_5 : Nat → Int → Int → Wd → Option (Int × Wd)
  | 0, _, _, _ => none
  | n + 1, x1, x2, w =>
    (if wr 12 ≤ wr x2 then
      some (x1, w)
    else
      (if 0 ≤ x2 ∧ x2 < 12 then
      (rv_leastLevel_5 n (imin x1 (w 2 x2.toNat)) (x2 + 1) w)
      else none))
theorem rv_leastLevel_5_ok {lc : Launch} {κ : KX} {D : CX} {ad : Nat → Nat} {v : Int × Wd} (X : gX κ D cX2_leastLevel RX2 rmX2_leastLevel lc 3) (Z : gQ κ D LAY ad (some .int) (some (iv v.1)) v.2 0 0) : ∀ (n : Nat) (x1 : Int) (x2 : Int) (w : Wd), rv_leastLevel_5 n x1 x2 w = some v → G κ D LAY ad 0 0 w 5 [(0, .ref (ad 1)), (1, iv x1), (2, iv x2)] [] := by
  intro n
  induction n with
  | zero =>
    intro x1 x2 w h
    cases h
  | succ n ih =>
    intro x1 x2 w h
    rw [rv_leastLevel_5] at h
    refine g_iload_n X 2 dX2_leastLevel_5 rfl rfl ?_
    refine g_bipush X 12 dX2_leastLevel_6 (by decide) ?_
    refine g_icmp_ge X h dX2_leastLevel_8 (tgt := 28) (by decide) (fun h => ?_) (fun h => ?_)
    · refine g_iload_n X 1 dX2_leastLevel_28 rfl rfl ?_
      exact g_iret X Z h dX2_leastLevel_29
    · refine g_iload_n X 1 dX2_leastLevel_11 rfl rfl ?_
      refine g_aload_n X 0 dX2_leastLevel_12 rfl rfl ?_
      refine gf_X2_9 X dX2_leastLevel_13 ?_
      refine g_iload_n X 2 dX2_leastLevel_16 rfl rfl ?_
      refine g_iald X (n := 12) (c := 2) h rfl (by decide) dX2_leastLevel_17 (fun h => ?_)
      refine g_mmin X wm_X2_27 (by decide) ⟨by decide, by decide⟩ (Nat.le_of_ble_eq_true rfl) dX2_leastLevel_18 ?_
      refine g_istore_n X [1, 0, 2] (ls1 := [(0, .ref (ad 1)), (1, iv (imin x1 (w 2 x2.toNat))), (2, iv x2)]) dX2_leastLevel_21 rfl (by decide) rfl ?_
      refine g_iinc X 2 [1, 2, 0] (ls1 := [(0, .ref (ad 1)), (1, iv (imin x1 (w 2 x2.toNat))), (2, iv (x2 + 1))]) dX2_leastLevel_22 rfl (by decide) rfl ?_
      refine g_goto X (tgt := 5) dX2_leastLevel_25 (by decide) ?_
      exact ih (imin x1 (w 2 x2.toNat)) (x2 + 1) w h
noncomputable def rv_leastLevel (w : Wd) : Option (Int × Wd) :=
  (rv_leastLevel_5 FU 80 0 w)
theorem mc_rv_leastLevel {lc : Launch} {D : CX} {ad : Nat → Nat} {w : Wd} {v : Int × Wd} (h : rv_leastLevel w = some v) : Mc lc yX2_leastLevel cX2_leastLevel 3 (some .int) rmX2_leastLevel D LAY ad [.ref (ad 1)] w (some (iv v.1)) v.2 0 0 := by
  refine mc_of (by decide) (Nat.le_of_ble_eq_true rfl) ?_
  intro κ X Z
  show G κ D LAY ad 0 0 w 0 [(0, .ref (ad 1))] []
  unfold rv_leastLevel at h
  refine g_bipush X 80 dX2_leastLevel_0 (by decide) ?_
  refine g_istore_n X [1, 0] (ls1 := [(0, .ref (ad 1)), (1, iv 80)]) dX2_leastLevel_2 rfl (by decide) rfl ?_
  refine g_iconst X dX2_leastLevel_3 ?_
  refine g_istore_n X [1, 2, 0] (ls1 := [(0, .ref (ad 1)), (1, iv 80), (2, iv 0)]) dX2_leastLevel_4 rfl (by decide) rfl ?_
  refine rv_leastLevel_5_ok X Z FU 80 0 w h

/-! TallShips$River.greatestLevel -/
noncomputable def rv_greatestLevel_4 : Nat → Int → Int → Wd → Option (Int × Wd)
  | 0, _, _, _ => none
  | n + 1, x1, x2, w =>
    (if wr 12 ≤ wr x2 then
      some (x1, w)
    else
      (if 0 ≤ x2 ∧ x2 < 12 then
      (rv_greatestLevel_4 n (imax x1 (w 2 x2.toNat)) (x2 + 1) w)
      else none))
theorem rv_greatestLevel_4_ok {lc : Launch} {κ : KX} {D : CX} {ad : Nat → Nat} {v : Int × Wd} (X : gX κ D cX2_greatestLevel RX2 rmX2_greatestLevel lc 3) (Z : gQ κ D LAY ad (some .int) (some (iv v.1)) v.2 0 0) : ∀ (n : Nat) (x1 : Int) (x2 : Int) (w : Wd), rv_greatestLevel_4 n x1 x2 w = some v → G κ D LAY ad 0 0 w 4 [(0, .ref (ad 1)), (1, iv x1), (2, iv x2)] [] := by
  intro n
  induction n with
  | zero =>
    intro x1 x2 w h
    cases h
  | succ n ih =>
    intro x1 x2 w h
    rw [rv_greatestLevel_4] at h
    refine g_iload_n X 2 dX2_greatestLevel_4 rfl rfl ?_
    refine g_bipush X 12 dX2_greatestLevel_5 (by decide) ?_
    refine g_icmp_ge X h dX2_greatestLevel_7 (tgt := 27) (by decide) (fun h => ?_) (fun h => ?_)
    · refine g_iload_n X 1 dX2_greatestLevel_27 rfl rfl ?_
      exact g_iret X Z h dX2_greatestLevel_28
    · refine g_iload_n X 1 dX2_greatestLevel_10 rfl rfl ?_
      refine g_aload_n X 0 dX2_greatestLevel_11 rfl rfl ?_
      refine gf_X2_9 X dX2_greatestLevel_12 ?_
      refine g_iload_n X 2 dX2_greatestLevel_15 rfl rfl ?_
      refine g_iald X (n := 12) (c := 2) h rfl (by decide) dX2_greatestLevel_16 (fun h => ?_)
      refine g_mmax X wm_X2_33 (by decide) ⟨by decide, by decide⟩ (Nat.le_of_ble_eq_true rfl) dX2_greatestLevel_17 ?_
      refine g_istore_n X [1, 0, 2] (ls1 := [(0, .ref (ad 1)), (1, iv (imax x1 (w 2 x2.toNat))), (2, iv x2)]) dX2_greatestLevel_20 rfl (by decide) rfl ?_
      refine g_iinc X 2 [1, 2, 0] (ls1 := [(0, .ref (ad 1)), (1, iv (imax x1 (w 2 x2.toNat))), (2, iv (x2 + 1))]) dX2_greatestLevel_21 rfl (by decide) rfl ?_
      refine g_goto X (tgt := 4) dX2_greatestLevel_24 (by decide) ?_
      exact ih (imax x1 (w 2 x2.toNat)) (x2 + 1) w h
noncomputable def rv_greatestLevel (w : Wd) : Option (Int × Wd) :=
  (rv_greatestLevel_4 FU 0 0 w)
theorem mc_rv_greatestLevel {lc : Launch} {D : CX} {ad : Nat → Nat} {w : Wd} {v : Int × Wd} (h : rv_greatestLevel w = some v) : Mc lc yX2_greatestLevel cX2_greatestLevel 3 (some .int) rmX2_greatestLevel D LAY ad [.ref (ad 1)] w (some (iv v.1)) v.2 0 0 := by
  refine mc_of (by decide) (Nat.le_of_ble_eq_true rfl) ?_
  intro κ X Z
  show G κ D LAY ad 0 0 w 0 [(0, .ref (ad 1))] []
  unfold rv_greatestLevel at h
  refine g_iconst X dX2_greatestLevel_0 ?_
  refine g_istore_n X [1, 0] (ls1 := [(0, .ref (ad 1)), (1, iv 0)]) dX2_greatestLevel_1 rfl (by decide) rfl ?_
  refine g_iconst X dX2_greatestLevel_2 ?_
  refine g_istore_n X [1, 2, 0] (ls1 := [(0, .ref (ad 1)), (1, iv 0), (2, iv 0)]) dX2_greatestLevel_3 rfl (by decide) rfl ?_
  refine rv_greatestLevel_4_ok X Z FU 0 0 w h

/-! TallShips.within -/
noncomputable def x_within (x0 x1 x2 : Int) (w : Wd) : Option (Int × Wd) :=
  (if wr x0 < wr x1 then
    some (0, w)
  else
    (if wr x2 < wr x0 then
      some (0, w)
    else
      some (1, w)))
theorem mc_x_within {lc : Launch} {D : CX} {ad : Nat → Nat} {w : Wd} {x0 x1 x2 : Int} {v : Int × Wd} (h : x_within x0 x1 x2 w = some v) : Mc lc yX3_within cX3_within 3 (some .boolean) rmX3_within D LAY ad [iv x0, iv x1, iv x2] w (some (iv v.1)) v.2 0 0 := by
  refine mc_of (by decide) (Nat.le_of_ble_eq_true rfl) ?_
  intro κ X Z
  show G κ D LAY ad 0 0 w 0 [(0, iv x0), (1, iv x1), (2, iv x2)] []
  unfold x_within at h
  refine g_iload_n X 0 dX3_within_0 rfl rfl ?_
  refine g_iload_n X 1 dX3_within_1 rfl rfl ?_
  refine g_icmp_lt X h dX3_within_2 (tgt := 14) (by decide) (fun h => ?_) (fun h => ?_)
  · refine g_iconst X dX3_within_14 ?_
    exact g_zretC X Z h (by decide) dX3_within_15
  · refine g_iload_n X 0 dX3_within_5 rfl rfl ?_
    refine g_iload_n X 2 dX3_within_6 rfl rfl ?_
    refine g_icmp_gt X h dX3_within_7 (tgt := 14) (by decide) (fun h => ?_) (fun h => ?_)
    · refine g_iconst X dX3_within_14 ?_
      exact g_zretC X Z h (by decide) dX3_within_15
    · refine g_iconst X dX3_within_10 ?_
      refine g_goto X (tgt := 15) dX3_within_11 (by decide) ?_
      exact g_zretC X Z h (by decide) dX3_within_15

/-! TallShips.tide -/
noncomputable def x_tide (x1 x2 : Int) (w : Wd) : Option (Int × Wd) :=
  ((x_within x1 0 11 w).bind fun q4 =>
  (if wr q4.1 = 0 then
    some (0, q4.2)
  else
    ((x_within x2 0 80 q4.2).bind fun q14 =>
    (if wr q14.1 = 0 then
      some (0, q14.2)
    else
      (if 0 ≤ x1 ∧ x1 < 12 then
      some (1, (wset q14.2 2 x1.toNat x2))
      else none)))))
theorem mc_x_tide {lc : Launch} {D : CX} {ad : Nat → Nat} {w : Wd} {x1 x2 : Int} {v : Int × Wd} (h : x_tide x1 x2 w = some v) : Mc lc yX3_tide cX3_tide 3 (some .boolean) rmX3_tide D LAY ad [.ref (ad 0), iv x1, iv x2] w (some (iv v.1)) v.2 0 0 := by
  refine mc_of (by decide) (Nat.le_of_ble_eq_true rfl) ?_
  intro κ X Z
  show G κ D LAY ad 0 0 w 0 [(0, .ref (ad 0)), (1, iv x1), (2, iv x2)] []
  unfold x_tide at h
  refine g_iload_n X 1 dX3_tide_0 rfl rfl ?_
  refine g_iconst X dX3_tide_1 ?_
  refine g_bipush X 11 dX3_tide_2 (by decide) ?_
  obtain ⟨q4, e4, h⟩ := bindE h
  refine g_callSi X (st := []) [iv x1, iv 0, iv 11] (mc_x_within e4) cal_X3_within wm_X3_44 (by decide) rfl rfl ⟨by decide, by decide⟩ rfl (Nat.le_of_ble_eq_true rfl) dX3_tide_4 ?_
  refine g_if_eq X h dX3_tide_7 (tgt := 20) (by decide) (fun h => ?_) (fun h => ?_)
  · refine g_iconst X dX3_tide_20 ?_
    exact g_zretC X Z h (by decide) dX3_tide_21
  · refine g_iload_n X 2 dX3_tide_10 rfl rfl ?_
    refine g_iconst X dX3_tide_11 ?_
    refine g_bipush X 80 dX3_tide_12 (by decide) ?_
    obtain ⟨q14, e14, h⟩ := bindE h
    refine g_callSi X (st := []) [iv x2, iv 0, iv 80] (mc_x_within e14) cal_X3_within wm_X3_44 (by decide) rfl rfl ⟨by decide, by decide⟩ rfl (Nat.le_of_ble_eq_true rfl) dX3_tide_14 ?_
    refine g_if_ne X h dX3_tide_17 (tgt := 22) (by decide) (fun h => ?_) (fun h => ?_)
    · refine g_aload_n X 0 dX3_tide_22 rfl rfl ?_
      refine gf_X3_12 X dX3_tide_23 ?_
      refine gf_X3_48 X dX3_tide_26 ?_
      refine g_iload_n X 1 dX3_tide_29 rfl rfl ?_
      refine g_iload_n X 2 dX3_tide_30 rfl rfl ?_
      refine g_iast X (n := 12) (c := 2) h rfl (by decide) dX3_tide_31 (fun h => ?_)
      refine g_iconst X dX3_tide_32 ?_
      exact g_zretC X Z h (by decide) dX3_tide_33
    · refine g_iconst X dX3_tide_20 ?_
      exact g_zretC X Z h (by decide) dX3_tide_21

/-! TallShips.isHour -/
noncomputable def x_isHour (x0 : Int) (w : Wd) : Option (Int × Wd) :=
  ((x_within x0 0 119 w).bind fun q4 =>
  (if q4.1 = 0 ∨ q4.1 = 1 then some (q4.1, q4.2) else none))
theorem mc_x_isHour {lc : Launch} {D : CX} {ad : Nat → Nat} {w : Wd} {x0 : Int} {v : Int × Wd} (h : x_isHour x0 w = some v) : Mc lc yX3_isHour cX3_isHour 1 (some .boolean) rmX3_isHour D LAY ad [iv x0] w (some (iv v.1)) v.2 0 0 := by
  refine mc_of (by decide) (Nat.le_of_ble_eq_true rfl) ?_
  intro κ X Z
  show G κ D LAY ad 0 0 w 0 [(0, iv x0)] []
  unfold x_isHour at h
  refine g_iload_n X 0 dX3_isHour_0 rfl rfl ?_
  refine g_iconst X dX3_isHour_1 ?_
  refine g_bipush X 119 dX3_isHour_2 (by decide) ?_
  obtain ⟨q4, e4, h⟩ := bindE h
  refine g_callSi X (st := []) [iv x0, iv 0, iv 119] (mc_x_within e4) cal_X3_within wm_X3_44 (by decide) rfl rfl ⟨by decide, by decide⟩ rfl (Nat.le_of_ble_eq_true rfl) dX3_isHour_4 ?_
  exact g_zret X Z h dX3_isHour_7

/-! TallShips.areHours -/
noncomputable def x_areHours (x0 x1 : Int) (w : Wd) : Option (Int × Wd) :=
  ((x_isHour x0 w).bind fun q1 =>
  (if wr q1.1 = 0 then
    some (0, q1.2)
  else
    ((x_isHour x1 q1.2).bind fun q8 =>
    (if wr q8.1 = 0 then
      some (0, q8.2)
    else
      (if wr x1 < wr x0 then
        some (0, q8.2)
      else
        some (1, q8.2))))))
theorem mc_x_areHours {lc : Launch} {D : CX} {ad : Nat → Nat} {w : Wd} {x0 x1 : Int} {v : Int × Wd} (h : x_areHours x0 x1 w = some v) : Mc lc yX3_areHours cX3_areHours 2 (some .boolean) rmX3_areHours D LAY ad [iv x0, iv x1] w (some (iv v.1)) v.2 0 0 := by
  refine mc_of (by decide) (Nat.le_of_ble_eq_true rfl) ?_
  intro κ X Z
  show G κ D LAY ad 0 0 w 0 [(0, iv x0), (1, iv x1)] []
  unfold x_areHours at h
  refine g_iload_n X 0 dX3_areHours_0 rfl rfl ?_
  obtain ⟨q1, e1, h⟩ := bindE h
  refine g_callSi X (st := []) [iv x0] (mc_x_isHour e1) cal_X3_isHour wm_X3_64 (by decide) rfl rfl ⟨by decide, by decide⟩ rfl (Nat.le_of_ble_eq_true rfl) dX3_areHours_1 ?_
  refine g_if_eq X h dX3_areHours_4 (tgt := 23) (by decide) (fun h => ?_) (fun h => ?_)
  · refine g_iconst X dX3_areHours_23 ?_
    exact g_zretC X Z h (by decide) dX3_areHours_24
  · refine g_iload_n X 1 dX3_areHours_7 rfl rfl ?_
    obtain ⟨q8, e8, h⟩ := bindE h
    refine g_callSi X (st := []) [iv x1] (mc_x_isHour e8) cal_X3_isHour wm_X3_64 (by decide) rfl rfl ⟨by decide, by decide⟩ rfl (Nat.le_of_ble_eq_true rfl) dX3_areHours_8 ?_
    refine g_if_eq X h dX3_areHours_11 (tgt := 23) (by decide) (fun h => ?_) (fun h => ?_)
    · refine g_iconst X dX3_areHours_23 ?_
      exact g_zretC X Z h (by decide) dX3_areHours_24
    · refine g_iload_n X 0 dX3_areHours_14 rfl rfl ?_
      refine g_iload_n X 1 dX3_areHours_15 rfl rfl ?_
      refine g_icmp_gt X h dX3_areHours_16 (tgt := 23) (by decide) (fun h => ?_) (fun h => ?_)
      · refine g_iconst X dX3_areHours_23 ?_
        exact g_zretC X Z h (by decide) dX3_areHours_24
      · refine g_iconst X dX3_areHours_19 ?_
        refine g_goto X (tgt := 24) dX3_areHours_20 (by decide) ?_
        exact g_zretC X Z h (by decide) dX3_areHours_24

/-! TallShips.tugs -/
noncomputable def x_tugs_23 (x2 x3 : Int) : Nat → Int → Wd → Option (Int × Wd)
  | 0, _, _ => none
  | n + 1, x4, w =>
    (if wr x2 < wr x4 then
      some (1, w)
    else
      (if 0 ≤ x4 ∧ x4 < 120 then
      (x_tugs_23 x2 x3 n (x4 + 1) (wset w 3 x4.toNat x3))
      else none))
theorem x_tugs_23_ok {lc : Launch} {κ : KX} {D : CX} {ad : Nat → Nat} {x2 x3 : Int} {v : Int × Wd} (X : gX κ D cX3_tugs RX3 rmX3_tugs lc 5) (Z : gQ κ D LAY ad (some .boolean) (some (iv v.1)) v.2 0 0) : ∀ (n : Nat) (x4 : Int) (w : Wd), x_tugs_23 x2 x3 n x4 w = some v → G κ D LAY ad 0 0 w 23 [(0, .ref (ad 0)), (2, iv x2), (3, iv x3), (4, iv x4)] [] := by
  intro n
  induction n with
  | zero =>
    intro x4 w h
    cases h
  | succ n ih =>
    intro x4 w h
    rw [x_tugs_23] at h
    refine g_iload X 3 dX3_tugs_23 rfl ?_
    refine g_iload_n X 1 dX3_tugs_25 rfl rfl ?_
    refine g_icmp_gt X h dX3_tugs_26 (tgt := 46) (by decide) (fun h => ?_) (fun h => ?_)
    · refine g_iconst X dX3_tugs_46 ?_
      exact g_zretC X Z h (by decide) dX3_tugs_47
    · refine g_aload_n X 0 dX3_tugs_29 rfl rfl ?_
      refine gf_X3_12 X dX3_tugs_30 ?_
      refine gf_X3_61 X dX3_tugs_33 ?_
      refine g_iload X 3 dX3_tugs_36 rfl ?_
      refine g_iload_n X 2 dX3_tugs_38 rfl rfl ?_
      refine g_iast X (n := 120) (c := 3) h rfl (by decide) dX3_tugs_39 (fun h => ?_)
      refine g_iinc X 3 [1, 2, 3, 0] (ls1 := [(0, .ref (ad 0)), (2, iv x2), (3, iv x3), (4, iv (x4 + 1))]) dX3_tugs_40 rfl (by decide) rfl ?_
      refine g_goto X (tgt := 23) dX3_tugs_43 (by decide) ?_
      exact ih (x4 + 1) (wset w 3 x4.toNat x3) h
noncomputable def x_tugs (x1 x2 x3 : Int) (w : Wd) : Option (Int × Wd) :=
  ((x_areHours x1 x2 w).bind fun q2 =>
  (if wr q2.1 = 0 then
    some (0, q2.2)
  else
    ((x_within x3 0 9 q2.2).bind fun q12 =>
    (if wr q12.1 = 0 then
      some (0, q12.2)
    else
      (x_tugs_23 x2 x3 FU x1 q12.2)))))
theorem mc_x_tugs {lc : Launch} {D : CX} {ad : Nat → Nat} {w : Wd} {x1 x2 x3 : Int} {v : Int × Wd} (h : x_tugs x1 x2 x3 w = some v) : Mc lc yX3_tugs cX3_tugs 5 (some .boolean) rmX3_tugs D LAY ad [.ref (ad 0), iv x1, iv x2, iv x3] w (some (iv v.1)) v.2 0 0 := by
  refine mc_of (by decide) (Nat.le_of_ble_eq_true rfl) ?_
  intro κ X Z
  show G κ D LAY ad 0 0 w 0 [(0, .ref (ad 0)), (1, iv x1), (2, iv x2), (3, iv x3)] []
  unfold x_tugs at h
  refine g_iload_n X 1 dX3_tugs_0 rfl rfl ?_
  refine g_iload_n X 2 dX3_tugs_1 rfl rfl ?_
  obtain ⟨q2, e2, h⟩ := bindE h
  refine g_callSi X (st := []) [iv x1, iv x2] (mc_x_areHours e2) cal_X3_areHours wm_X3_57 (by decide) rfl rfl ⟨by decide, by decide⟩ rfl (Nat.le_of_ble_eq_true rfl) dX3_tugs_2 ?_
  refine g_if_eq X h dX3_tugs_5 (tgt := 18) (by decide) (fun h => ?_) (fun h => ?_)
  · refine g_iconst X dX3_tugs_18 ?_
    exact g_zretC X Z h (by decide) dX3_tugs_19
  · refine g_iload_n X 3 dX3_tugs_8 rfl rfl ?_
    refine g_iconst X dX3_tugs_9 ?_
    refine g_bipush X 9 dX3_tugs_10 (by decide) ?_
    obtain ⟨q12, e12, h⟩ := bindE h
    refine g_callSi X (st := []) [iv x3, iv 0, iv 9] (mc_x_within e12) cal_X3_within wm_X3_44 (by decide) rfl rfl ⟨by decide, by decide⟩ rfl (Nat.le_of_ble_eq_true rfl) dX3_tugs_12 ?_
    refine g_if_ne X h dX3_tugs_15 (tgt := 20) (by decide) (fun h => ?_) (fun h => ?_)
    · refine g_iload_n X 1 dX3_tugs_20 rfl rfl ?_
      refine g_istore X [1, 2, 3, 4, 0] (ls1 := [(0, .ref (ad 0)), (1, iv x1), (2, iv x2), (3, iv x3), (4, iv x1)]) dX3_tugs_21 (by decide) rfl ?_
      refine g_sub [0, 2, 3, 4] rfl ?_
      refine x_tugs_23_ok X Z FU x1 q12.2 h
    · refine g_iconst X dX3_tugs_18 ?_
      exact g_zretC X Z h (by decide) dX3_tugs_19

/-! TallShips.ship -/
noncomputable def x_ship (x1 x2 x3 x4 x5 x6 x7 : Int) (w : Wd) : Option (Int × Wd) :=
  ((x_within x1 1 1200 w).bind fun q5 =>
  (let j37 := fun (z37_0 : Int) (w37 : Wd) => 
      ((x_within x4 0 100 w37).bind fun q44 =>
      (let j84 := fun (z84_0 : Int) (w84 : Wd) => 
          (if wr z37_0 = 0 then
            some ((-1), w84)
          else
            (if wr z84_0 = 0 then
              some ((-1), w84)
            else
              (if wr (w84 5 0) < wr 7 then
                (if 0 ≤ (w84 5 0) ∧ (w84 5 0) < 7 then
                (if 0 ≤ (w84 5 0) ∧ (w84 5 0) < 7 then
                (if 0 ≤ (w84 5 0) ∧ (w84 5 0) < 7 then
                (if 0 ≤ (w84 5 0) ∧ (w84 5 0) < 7 then
                (if 0 ≤ (w84 5 0) ∧ (w84 5 0) < 7 then
                (if 0 ≤ (w84 5 0) ∧ (w84 5 0) < 7 then
                (if 0 ≤ (w84 5 0) ∧ (w84 5 0) < 7 then
                some ((w84 5 0), (wset (wset (wset (wset (wset (wset (wset (wset w84 6 (w84 5 0).toNat x1) 7 (w84 5 0).toNat x2) 8 (w84 5 0).toNat x3) 9 (w84 5 0).toNat x4) 10 (w84 5 0).toNat x5) 11 (w84 5 0).toNat x6) 12 (w84 5 0).toNat x7) 5 0 ((w84 5 0) + 1)))
                else none)
                else none)
                else none)
                else none)
                else none)
                else none)
                else none)
              else
                some ((-1), w84))))
      let j83 := fun (w83 : Wd) => 
          (j84 0 w83)
      (if wr q44.1 = 0 then
        (j83 q44.2)
      else
        ((x_within x5 0 3 q44.2).bind fun q54 =>
        (if wr q54.1 = 0 then
          (j83 q54.2)
        else
          ((x_isHour x6 q54.2).bind fun q62 =>
          (if wr q62.1 = 0 then
            (j83 q62.2)
          else
            ((x_within x7 1 60 q62.2).bind fun q73 =>
            (if wr q73.1 = 0 then
              (j83 q73.2)
            else
              (j84 1 q73.2))))))))))
  let j36 := fun (w36 : Wd) => 
      (j37 0 w36)
  (if wr q5.1 = 0 then
    (j36 q5.2)
  else
    ((x_within x2 1 120 q5.2).bind fun q15 =>
    (if wr q15.1 = 0 then
      (j36 q15.2)
    else
      ((x_within x3 1 700 q15.2).bind fun q26 =>
      (if wr q26.1 = 0 then
        (j36 q26.2)
      else
        (j37 1 q26.2))))))))
theorem mc_x_ship {lc : Launch} {D : CX} {ad : Nat → Nat} {w : Wd} {x1 x2 x3 x4 x5 x6 x7 : Int} {v : Int × Wd} (h : x_ship x1 x2 x3 x4 x5 x6 x7 w = some v) : Mc lc yX3_ship cX3_ship 11 (some .int) rmX3_ship D LAY ad [.ref (ad 0), iv x1, iv x2, iv x3, iv x4, iv x5, iv x6, iv x7] w (some (iv v.1)) v.2 0 0 := by
  refine mc_of (by decide) (Nat.le_of_ble_eq_true rfl) ?_
  intro κ X Z
  show G κ D LAY ad 0 0 w 0 [(0, .ref (ad 0)), (1, iv x1), (2, iv x2), (3, iv x3), (4, iv x4), (5, iv x5), (6, iv x6), (7, iv x7)] []
  unfold x_ship at h
  refine g_iload_n X 1 dX3_ship_0 rfl rfl ?_
  refine g_iconst X dX3_ship_1 ?_
  refine g_sipush X 1200 dX3_ship_2 (by decide) ?_
  obtain ⟨q5, e5, h⟩ := bindE h
  refine g_callSi X (st := []) [iv x1, iv 1, iv 1200] (mc_x_within e5) cal_X3_within wm_X3_44 (by decide) rfl rfl ⟨by decide, by decide⟩ rfl (Nat.le_of_ble_eq_true rfl) dX3_ship_5 ?_
  let j37 := fun (z37_0 : Int) (w37 : Wd) => (((x_within x4 0 100 w37).bind fun q44 =>
  (let j84 := fun (z84_0 : Int) (w84 : Wd) => 
      (if wr z37_0 = 0 then
        some ((-1), w84)
      else
        (if wr z84_0 = 0 then
          some ((-1), w84)
        else
          (if wr (w84 5 0) < wr 7 then
            (if 0 ≤ (w84 5 0) ∧ (w84 5 0) < 7 then
            (if 0 ≤ (w84 5 0) ∧ (w84 5 0) < 7 then
            (if 0 ≤ (w84 5 0) ∧ (w84 5 0) < 7 then
            (if 0 ≤ (w84 5 0) ∧ (w84 5 0) < 7 then
            (if 0 ≤ (w84 5 0) ∧ (w84 5 0) < 7 then
            (if 0 ≤ (w84 5 0) ∧ (w84 5 0) < 7 then
            (if 0 ≤ (w84 5 0) ∧ (w84 5 0) < 7 then
            some ((w84 5 0), (wset (wset (wset (wset (wset (wset (wset (wset w84 6 (w84 5 0).toNat x1) 7 (w84 5 0).toNat x2) 8 (w84 5 0).toNat x3) 9 (w84 5 0).toNat x4) 10 (w84 5 0).toNat x5) 11 (w84 5 0).toNat x6) 12 (w84 5 0).toNat x7) 5 0 ((w84 5 0) + 1)))
            else none)
            else none)
            else none)
            else none)
            else none)
            else none)
            else none)
          else
            some ((-1), w84))))
  let j83 := fun (w83 : Wd) => 
      (j84 0 w83)
  (if wr q44.1 = 0 then
    (j83 q44.2)
  else
    ((x_within x5 0 3 q44.2).bind fun q54 =>
    (if wr q54.1 = 0 then
      (j83 q54.2)
    else
      ((x_isHour x6 q54.2).bind fun q62 =>
      (if wr q62.1 = 0 then
        (j83 q62.2)
      else
        ((x_within x7 1 60 q62.2).bind fun q73 =>
        (if wr q73.1 = 0 then
          (j83 q73.2)
        else
          (j84 1 q73.2)))))))))))
  have J37 : ∀ (z37_0 : Int) (w37 : Wd), (((x_within x4 0 100 w37).bind fun q44 =>
  (let j84 := fun (z84_0 : Int) (w84 : Wd) => 
      (if wr z37_0 = 0 then
        some ((-1), w84)
      else
        (if wr z84_0 = 0 then
          some ((-1), w84)
        else
          (if wr (w84 5 0) < wr 7 then
            (if 0 ≤ (w84 5 0) ∧ (w84 5 0) < 7 then
            (if 0 ≤ (w84 5 0) ∧ (w84 5 0) < 7 then
            (if 0 ≤ (w84 5 0) ∧ (w84 5 0) < 7 then
            (if 0 ≤ (w84 5 0) ∧ (w84 5 0) < 7 then
            (if 0 ≤ (w84 5 0) ∧ (w84 5 0) < 7 then
            (if 0 ≤ (w84 5 0) ∧ (w84 5 0) < 7 then
            (if 0 ≤ (w84 5 0) ∧ (w84 5 0) < 7 then
            some ((w84 5 0), (wset (wset (wset (wset (wset (wset (wset (wset w84 6 (w84 5 0).toNat x1) 7 (w84 5 0).toNat x2) 8 (w84 5 0).toNat x3) 9 (w84 5 0).toNat x4) 10 (w84 5 0).toNat x5) 11 (w84 5 0).toNat x6) 12 (w84 5 0).toNat x7) 5 0 ((w84 5 0) + 1)))
            else none)
            else none)
            else none)
            else none)
            else none)
            else none)
            else none)
          else
            some ((-1), w84))))
  let j83 := fun (w83 : Wd) => 
      (j84 0 w83)
  (if wr q44.1 = 0 then
    (j83 q44.2)
  else
    ((x_within x5 0 3 q44.2).bind fun q54 =>
    (if wr q54.1 = 0 then
      (j83 q54.2)
    else
      ((x_isHour x6 q54.2).bind fun q62 =>
      (if wr q62.1 = 0 then
        (j83 q62.2)
      else
        ((x_within x7 1 60 q62.2).bind fun q73 =>
        (if wr q73.1 = 0 then
          (j83 q73.2)
        else
          (j84 1 q73.2))))))))))) = some v → G κ D LAY ad 0 0 w37 37 [(0, .ref (ad 0)), (1, iv x1), (2, iv x2), (3, iv x3), (4, iv x4), (5, iv x5), (6, iv x6), (7, iv x7)] [iv z37_0] := by
    intro z37_0 w37 h
    refine g_istore X [1, 2, 3, 4, 5, 6, 7, 8, 0] (ls1 := [(0, .ref (ad 0)), (1, iv x1), (2, iv x2), (3, iv x3), (4, iv x4), (5, iv x5), (6, iv x6), (7, iv x7), (8, iv z37_0)]) dX3_ship_37 (by decide) rfl ?_
    refine g_iload X 4 dX3_ship_39 rfl ?_
    refine g_iconst X dX3_ship_41 ?_
    refine g_bipush X 100 dX3_ship_42 (by decide) ?_
    obtain ⟨q44, e44, h⟩ := bindE h
    refine g_callSi X (st := []) [iv x4, iv 0, iv 100] (mc_x_within e44) cal_X3_within wm_X3_44 (by decide) rfl rfl ⟨by decide, by decide⟩ rfl (Nat.le_of_ble_eq_true rfl) dX3_ship_44 ?_
    let j84 := fun (z84_0 : Int) (w84 : Wd) => ((if wr z37_0 = 0 then
      some ((-1), w84)
    else
      (if wr z84_0 = 0 then
        some ((-1), w84)
      else
        (if wr (w84 5 0) < wr 7 then
          (if 0 ≤ (w84 5 0) ∧ (w84 5 0) < 7 then
          (if 0 ≤ (w84 5 0) ∧ (w84 5 0) < 7 then
          (if 0 ≤ (w84 5 0) ∧ (w84 5 0) < 7 then
          (if 0 ≤ (w84 5 0) ∧ (w84 5 0) < 7 then
          (if 0 ≤ (w84 5 0) ∧ (w84 5 0) < 7 then
          (if 0 ≤ (w84 5 0) ∧ (w84 5 0) < 7 then
          (if 0 ≤ (w84 5 0) ∧ (w84 5 0) < 7 then
          some ((w84 5 0), (wset (wset (wset (wset (wset (wset (wset (wset w84 6 (w84 5 0).toNat x1) 7 (w84 5 0).toNat x2) 8 (w84 5 0).toNat x3) 9 (w84 5 0).toNat x4) 10 (w84 5 0).toNat x5) 11 (w84 5 0).toNat x6) 12 (w84 5 0).toNat x7) 5 0 ((w84 5 0) + 1)))
          else none)
          else none)
          else none)
          else none)
          else none)
          else none)
          else none)
        else
          some ((-1), w84)))))
    have J84 : ∀ (z84_0 : Int) (w84 : Wd), ((if wr z37_0 = 0 then
      some ((-1), w84)
    else
      (if wr z84_0 = 0 then
        some ((-1), w84)
      else
        (if wr (w84 5 0) < wr 7 then
          (if 0 ≤ (w84 5 0) ∧ (w84 5 0) < 7 then
          (if 0 ≤ (w84 5 0) ∧ (w84 5 0) < 7 then
          (if 0 ≤ (w84 5 0) ∧ (w84 5 0) < 7 then
          (if 0 ≤ (w84 5 0) ∧ (w84 5 0) < 7 then
          (if 0 ≤ (w84 5 0) ∧ (w84 5 0) < 7 then
          (if 0 ≤ (w84 5 0) ∧ (w84 5 0) < 7 then
          (if 0 ≤ (w84 5 0) ∧ (w84 5 0) < 7 then
          some ((w84 5 0), (wset (wset (wset (wset (wset (wset (wset (wset w84 6 (w84 5 0).toNat x1) 7 (w84 5 0).toNat x2) 8 (w84 5 0).toNat x3) 9 (w84 5 0).toNat x4) 10 (w84 5 0).toNat x5) 11 (w84 5 0).toNat x6) 12 (w84 5 0).toNat x7) 5 0 ((w84 5 0) + 1)))
          else none)
          else none)
          else none)
          else none)
          else none)
          else none)
          else none)
        else
          some ((-1), w84))))) = some v → G κ D LAY ad 0 0 w84 84 [(0, .ref (ad 0)), (1, iv x1), (2, iv x2), (3, iv x3), (4, iv x4), (5, iv x5), (6, iv x6), (7, iv x7), (8, iv z37_0)] [iv z84_0] := by
      intro z84_0 w84 h
      refine g_istore X [1, 2, 3, 4, 5, 6, 7, 8, 9, 0] (ls1 := [(0, .ref (ad 0)), (1, iv x1), (2, iv x2), (3, iv x3), (4, iv x4), (5, iv x5), (6, iv x6), (7, iv x7), (8, iv z37_0), (9, iv z84_0)]) dX3_ship_84 (by decide) rfl ?_
      refine g_iload X 8 dX3_ship_86 rfl ?_
      refine g_if_eq X h dX3_ship_88 (tgt := 108) (by decide) (fun h => ?_) (fun h => ?_)
      · refine g_iconst X dX3_ship_108 ?_
        exact g_iret X Z h dX3_ship_109
      · refine g_iload X 9 dX3_ship_91 rfl ?_
        refine g_if_eq X h dX3_ship_93 (tgt := 108) (by decide) (fun h => ?_) (fun h => ?_)
        · refine g_iconst X dX3_ship_108 ?_
          exact g_iret X Z h dX3_ship_109
        · refine g_aload_n X 0 dX3_ship_96 rfl rfl ?_
          refine gf_X3_19 X dX3_ship_97 ?_
          refine gf_X3_68 X dX3_ship_100 ?_
          refine g_bipush X 7 dX3_ship_103 (by decide) ?_
          refine g_icmp_lt X h dX3_ship_105 (tgt := 110) (by decide) (fun h => ?_) (fun h => ?_)
          · refine g_aload_n X 0 dX3_ship_110 rfl rfl ?_
            refine gf_X3_19 X dX3_ship_111 ?_
            refine gf_X3_68 X dX3_ship_114 ?_
            refine g_istore X [1, 2, 3, 4, 5, 6, 7, 8, 9, 10, 0] (ls1 := [(0, .ref (ad 0)), (1, iv x1), (2, iv x2), (3, iv x3), (4, iv x4), (5, iv x5), (6, iv x6), (7, iv x7), (8, iv z37_0), (9, iv z84_0), (10, iv (w84 5 0))]) dX3_ship_117 (by decide) rfl ?_
            refine g_aload_n X 0 dX3_ship_119 rfl rfl ?_
            refine gf_X3_19 X dX3_ship_120 ?_
            refine gf_X3_72 X dX3_ship_123 ?_
            refine g_iload X 10 dX3_ship_126 rfl ?_
            refine g_iload_n X 1 dX3_ship_128 rfl rfl ?_
            refine g_iast X (n := 7) (c := 6) h rfl (by decide) dX3_ship_129 (fun h => ?_)
            refine g_aload_n X 0 dX3_ship_130 rfl rfl ?_
            refine gf_X3_19 X dX3_ship_131 ?_
            refine gf_X3_75 X dX3_ship_134 ?_
            refine g_iload X 10 dX3_ship_137 rfl ?_
            refine g_iload_n X 2 dX3_ship_139 rfl rfl ?_
            refine g_iast X (n := 7) (c := 7) h rfl (by decide) dX3_ship_140 (fun h => ?_)
            refine g_aload_n X 0 dX3_ship_141 rfl rfl ?_
            refine gf_X3_19 X dX3_ship_142 ?_
            refine gf_X3_78 X dX3_ship_145 ?_
            refine g_iload X 10 dX3_ship_148 rfl ?_
            refine g_iload_n X 3 dX3_ship_150 rfl rfl ?_
            refine g_iast X (n := 7) (c := 8) h rfl (by decide) dX3_ship_151 (fun h => ?_)
            refine g_aload_n X 0 dX3_ship_152 rfl rfl ?_
            refine gf_X3_19 X dX3_ship_153 ?_
            refine gf_X3_81 X dX3_ship_156 ?_
            refine g_iload X 10 dX3_ship_159 rfl ?_
            refine g_iload X 4 dX3_ship_161 rfl ?_
            refine g_iast X (n := 7) (c := 9) h rfl (by decide) dX3_ship_163 (fun h => ?_)
            refine g_aload_n X 0 dX3_ship_164 rfl rfl ?_
            refine gf_X3_19 X dX3_ship_165 ?_
            refine gf_X3_84 X dX3_ship_168 ?_
            refine g_iload X 10 dX3_ship_171 rfl ?_
            refine g_iload X 5 dX3_ship_173 rfl ?_
            refine g_iast X (n := 7) (c := 10) h rfl (by decide) dX3_ship_175 (fun h => ?_)
            refine g_aload_n X 0 dX3_ship_176 rfl rfl ?_
            refine gf_X3_19 X dX3_ship_177 ?_
            refine gf_X3_87 X dX3_ship_180 ?_
            refine g_iload X 10 dX3_ship_183 rfl ?_
            refine g_iload X 6 dX3_ship_185 rfl ?_
            refine g_iast X (n := 7) (c := 11) h rfl (by decide) dX3_ship_187 (fun h => ?_)
            refine g_aload_n X 0 dX3_ship_188 rfl rfl ?_
            refine gf_X3_19 X dX3_ship_189 ?_
            refine gf_X3_90 X dX3_ship_192 ?_
            refine g_iload X 10 dX3_ship_195 rfl ?_
            refine g_iload X 7 dX3_ship_197 rfl ?_
            refine g_iast X (n := 7) (c := 12) h rfl (by decide) dX3_ship_199 (fun h => ?_)
            refine g_aload_n X 0 dX3_ship_200 rfl rfl ?_
            refine gf_X3_19 X dX3_ship_201 ?_
            refine g_iload X 10 dX3_ship_204 rfl ?_
            refine g_iconst X dX3_ship_206 ?_
            refine g_iadd X dX3_ship_207 ?_
            refine gp_X3_68 X dX3_ship_208 ?_
            refine g_iload X 10 dX3_ship_211 rfl ?_
            exact g_iret X Z h dX3_ship_213
          · refine g_iconst X dX3_ship_108 ?_
            exact g_iret X Z h dX3_ship_109
    let j83 := fun (w83 : Wd) => ((j84 0 w83))
    have J83 : ∀ (w83 : Wd), ((j84 0 w83)) = some v → G κ D LAY ad 0 0 w83 83 [(0, .ref (ad 0)), (1, iv x1), (2, iv x2), (3, iv x3), (4, iv x4), (5, iv x5), (6, iv x6), (7, iv x7), (8, iv z37_0)] [] := by
      intro w83 h
      refine g_iconst X dX3_ship_83 ?_
      exact J84 0 w83 h
    refine g_if_eq X h dX3_ship_47 (tgt := 83) (by decide) (fun h => ?_) (fun h => ?_)
    · exact J83 q44.2 h
    · refine g_iload X 5 dX3_ship_50 rfl ?_
      refine g_iconst X dX3_ship_52 ?_
      refine g_iconst X dX3_ship_53 ?_
      obtain ⟨q54, e54, h⟩ := bindE h
      refine g_callSi X (st := []) [iv x5, iv 0, iv 3] (mc_x_within e54) cal_X3_within wm_X3_44 (by decide) rfl rfl ⟨by decide, by decide⟩ rfl (Nat.le_of_ble_eq_true rfl) dX3_ship_54 ?_
      refine g_if_eq X h dX3_ship_57 (tgt := 83) (by decide) (fun h => ?_) (fun h => ?_)
      · exact J83 q54.2 h
      · refine g_iload X 6 dX3_ship_60 rfl ?_
        obtain ⟨q62, e62, h⟩ := bindE h
        refine g_callSi X (st := []) [iv x6] (mc_x_isHour e62) cal_X3_isHour wm_X3_64 (by decide) rfl rfl ⟨by decide, by decide⟩ rfl (Nat.le_of_ble_eq_true rfl) dX3_ship_62 ?_
        refine g_if_eq X h dX3_ship_65 (tgt := 83) (by decide) (fun h => ?_) (fun h => ?_)
        · exact J83 q62.2 h
        · refine g_iload X 7 dX3_ship_68 rfl ?_
          refine g_iconst X dX3_ship_70 ?_
          refine g_bipush X 60 dX3_ship_71 (by decide) ?_
          obtain ⟨q73, e73, h⟩ := bindE h
          refine g_callSi X (st := []) [iv x7, iv 1, iv 60] (mc_x_within e73) cal_X3_within wm_X3_44 (by decide) rfl rfl ⟨by decide, by decide⟩ rfl (Nat.le_of_ble_eq_true rfl) dX3_ship_73 ?_
          refine g_if_eq X h dX3_ship_76 (tgt := 83) (by decide) (fun h => ?_) (fun h => ?_)
          · exact J83 q73.2 h
          · refine g_iconst X dX3_ship_79 ?_
            refine g_goto X (tgt := 84) dX3_ship_80 (by decide) ?_
            exact J84 1 q73.2 h
  let j36 := fun (w36 : Wd) => ((j37 0 w36))
  have J36 : ∀ (w36 : Wd), ((j37 0 w36)) = some v → G κ D LAY ad 0 0 w36 36 [(0, .ref (ad 0)), (1, iv x1), (2, iv x2), (3, iv x3), (4, iv x4), (5, iv x5), (6, iv x6), (7, iv x7)] [] := by
    intro w36 h
    refine g_iconst X dX3_ship_36 ?_
    exact J37 0 w36 h
  refine g_if_eq X h dX3_ship_8 (tgt := 36) (by decide) (fun h => ?_) (fun h => ?_)
  · exact J36 q5.2 h
  · refine g_iload_n X 2 dX3_ship_11 rfl rfl ?_
    refine g_iconst X dX3_ship_12 ?_
    refine g_bipush X 120 dX3_ship_13 (by decide) ?_
    obtain ⟨q15, e15, h⟩ := bindE h
    refine g_callSi X (st := []) [iv x2, iv 1, iv 120] (mc_x_within e15) cal_X3_within wm_X3_44 (by decide) rfl rfl ⟨by decide, by decide⟩ rfl (Nat.le_of_ble_eq_true rfl) dX3_ship_15 ?_
    refine g_if_eq X h dX3_ship_18 (tgt := 36) (by decide) (fun h => ?_) (fun h => ?_)
    · exact J36 q15.2 h
    · refine g_iload_n X 3 dX3_ship_21 rfl rfl ?_
      refine g_iconst X dX3_ship_22 ?_
      refine g_sipush X 700 dX3_ship_23 (by decide) ?_
      obtain ⟨q26, e26, h⟩ := bindE h
      refine g_callSi X (st := []) [iv x3, iv 1, iv 700] (mc_x_within e26) cal_X3_within wm_X3_44 (by decide) rfl rfl ⟨by decide, by decide⟩ rfl (Nat.le_of_ble_eq_true rfl) dX3_ship_26 ?_
      refine g_if_eq X h dX3_ship_29 (tgt := 36) (by decide) (fun h => ?_) (fun h => ?_)
      · exact J36 q26.2 h
      · refine g_iconst X dX3_ship_32 ?_
        refine g_goto X (tgt := 37) dX3_ship_33 (by decide) ?_
        exact J37 1 q26.2 h

/-! TallShips.quay -/
noncomputable def x_quay (x1 x2 x3 x4 x5 : Int) (w : Wd) : Option (Int × Wd) :=
  ((x_within x1 1 4000 w).bind fun q5 =>
  (let j27 := fun (z27_0 : Int) (w27 : Wd) => 
      ((x_within x4 0 10 w27).bind fun q34 =>
      (let j56 := fun (z56_0 : Int) (w56 : Wd) => 
          (if wr z27_0 = 0 then
            some ((-1), w56)
          else
            (if wr z56_0 = 0 then
              some ((-1), w56)
            else
              (if wr (w56 16 0) < wr 4 then
                (if 0 ≤ (w56 16 0) ∧ (w56 16 0) < 4 then
                (if 0 ≤ (w56 16 0) ∧ (w56 16 0) < 4 then
                (if (0 ≤ (w56 16 0) ∧ (w56 16 0) < 4) ∧ (x3 = 0 ∨ x3 = 1) then
                (if 0 ≤ (w56 16 0) ∧ (w56 16 0) < 4 then
                (if 0 ≤ (w56 16 0) ∧ (w56 16 0) < 4 then
                some ((w56 16 0), (wset (wset (wset (wset (wset (wset w56 17 (w56 16 0).toNat x1) 18 (w56 16 0).toNat x2) 19 (w56 16 0).toNat x3) 20 (w56 16 0).toNat x4) 21 (w56 16 0).toNat x5) 16 0 ((w56 16 0) + 1)))
                else none)
                else none)
                else none)
                else none)
                else none)
              else
                some ((-1), w56))))
      let j55 := fun (w55 : Wd) => 
          (j56 0 w55)
      (if wr q34.1 = 0 then
        (j55 q34.2)
      else
        ((x_within x5 0 120 q34.2).bind fun q45 =>
        (if wr q45.1 = 0 then
          (j55 q45.2)
        else
          (j56 1 q45.2))))))
  let j26 := fun (w26 : Wd) => 
      (j27 0 w26)
  (if wr q5.1 = 0 then
    (j26 q5.2)
  else
    ((x_within x2 1 200 q5.2).bind fun q16 =>
    (if wr q16.1 = 0 then
      (j26 q16.2)
    else
      (j27 1 q16.2))))))
theorem mc_x_quay {lc : Launch} {D : CX} {ad : Nat → Nat} {w : Wd} {x1 x2 x3 x4 x5 : Int} {v : Int × Wd} (h : x_quay x1 x2 x3 x4 x5 w = some v) : Mc lc yX3_quay cX3_quay 9 (some .int) rmX3_quay D LAY ad [.ref (ad 0), iv x1, iv x2, iv x3, iv x4, iv x5] w (some (iv v.1)) v.2 0 0 := by
  refine mc_of (by decide) (Nat.le_of_ble_eq_true rfl) ?_
  intro κ X Z
  show G κ D LAY ad 0 0 w 0 [(0, .ref (ad 0)), (1, iv x1), (2, iv x2), (3, iv x3), (4, iv x4), (5, iv x5)] []
  unfold x_quay at h
  refine g_iload_n X 1 dX3_quay_0 rfl rfl ?_
  refine g_iconst X dX3_quay_1 ?_
  refine g_sipush X 4000 dX3_quay_2 (by decide) ?_
  obtain ⟨q5, e5, h⟩ := bindE h
  refine g_callSi X (st := []) [iv x1, iv 1, iv 4000] (mc_x_within e5) cal_X3_within wm_X3_44 (by decide) rfl rfl ⟨by decide, by decide⟩ rfl (Nat.le_of_ble_eq_true rfl) dX3_quay_5 ?_
  let j27 := fun (z27_0 : Int) (w27 : Wd) => (((x_within x4 0 10 w27).bind fun q34 =>
  (let j56 := fun (z56_0 : Int) (w56 : Wd) => 
      (if wr z27_0 = 0 then
        some ((-1), w56)
      else
        (if wr z56_0 = 0 then
          some ((-1), w56)
        else
          (if wr (w56 16 0) < wr 4 then
            (if 0 ≤ (w56 16 0) ∧ (w56 16 0) < 4 then
            (if 0 ≤ (w56 16 0) ∧ (w56 16 0) < 4 then
            (if (0 ≤ (w56 16 0) ∧ (w56 16 0) < 4) ∧ (x3 = 0 ∨ x3 = 1) then
            (if 0 ≤ (w56 16 0) ∧ (w56 16 0) < 4 then
            (if 0 ≤ (w56 16 0) ∧ (w56 16 0) < 4 then
            some ((w56 16 0), (wset (wset (wset (wset (wset (wset w56 17 (w56 16 0).toNat x1) 18 (w56 16 0).toNat x2) 19 (w56 16 0).toNat x3) 20 (w56 16 0).toNat x4) 21 (w56 16 0).toNat x5) 16 0 ((w56 16 0) + 1)))
            else none)
            else none)
            else none)
            else none)
            else none)
          else
            some ((-1), w56))))
  let j55 := fun (w55 : Wd) => 
      (j56 0 w55)
  (if wr q34.1 = 0 then
    (j55 q34.2)
  else
    ((x_within x5 0 120 q34.2).bind fun q45 =>
    (if wr q45.1 = 0 then
      (j55 q45.2)
    else
      (j56 1 q45.2)))))))
  have J27 : ∀ (z27_0 : Int) (w27 : Wd), (((x_within x4 0 10 w27).bind fun q34 =>
  (let j56 := fun (z56_0 : Int) (w56 : Wd) => 
      (if wr z27_0 = 0 then
        some ((-1), w56)
      else
        (if wr z56_0 = 0 then
          some ((-1), w56)
        else
          (if wr (w56 16 0) < wr 4 then
            (if 0 ≤ (w56 16 0) ∧ (w56 16 0) < 4 then
            (if 0 ≤ (w56 16 0) ∧ (w56 16 0) < 4 then
            (if (0 ≤ (w56 16 0) ∧ (w56 16 0) < 4) ∧ (x3 = 0 ∨ x3 = 1) then
            (if 0 ≤ (w56 16 0) ∧ (w56 16 0) < 4 then
            (if 0 ≤ (w56 16 0) ∧ (w56 16 0) < 4 then
            some ((w56 16 0), (wset (wset (wset (wset (wset (wset w56 17 (w56 16 0).toNat x1) 18 (w56 16 0).toNat x2) 19 (w56 16 0).toNat x3) 20 (w56 16 0).toNat x4) 21 (w56 16 0).toNat x5) 16 0 ((w56 16 0) + 1)))
            else none)
            else none)
            else none)
            else none)
            else none)
          else
            some ((-1), w56))))
  let j55 := fun (w55 : Wd) => 
      (j56 0 w55)
  (if wr q34.1 = 0 then
    (j55 q34.2)
  else
    ((x_within x5 0 120 q34.2).bind fun q45 =>
    (if wr q45.1 = 0 then
      (j55 q45.2)
    else
      (j56 1 q45.2))))))) = some v → G κ D LAY ad 0 0 w27 27 [(0, .ref (ad 0)), (1, iv x1), (2, iv x2), (3, iv x3), (4, iv x4), (5, iv x5)] [iv z27_0] := by
    intro z27_0 w27 h
    refine g_istore X [1, 2, 3, 4, 5, 6, 0] (ls1 := [(0, .ref (ad 0)), (1, iv x1), (2, iv x2), (3, iv x3), (4, iv x4), (5, iv x5), (6, iv z27_0)]) dX3_quay_27 (by decide) rfl ?_
    refine g_iload X 4 dX3_quay_29 rfl ?_
    refine g_iconst X dX3_quay_31 ?_
    refine g_bipush X 10 dX3_quay_32 (by decide) ?_
    obtain ⟨q34, e34, h⟩ := bindE h
    refine g_callSi X (st := []) [iv x4, iv 0, iv 10] (mc_x_within e34) cal_X3_within wm_X3_44 (by decide) rfl rfl ⟨by decide, by decide⟩ rfl (Nat.le_of_ble_eq_true rfl) dX3_quay_34 ?_
    let j56 := fun (z56_0 : Int) (w56 : Wd) => ((if wr z27_0 = 0 then
      some ((-1), w56)
    else
      (if wr z56_0 = 0 then
        some ((-1), w56)
      else
        (if wr (w56 16 0) < wr 4 then
          (if 0 ≤ (w56 16 0) ∧ (w56 16 0) < 4 then
          (if 0 ≤ (w56 16 0) ∧ (w56 16 0) < 4 then
          (if (0 ≤ (w56 16 0) ∧ (w56 16 0) < 4) ∧ (x3 = 0 ∨ x3 = 1) then
          (if 0 ≤ (w56 16 0) ∧ (w56 16 0) < 4 then
          (if 0 ≤ (w56 16 0) ∧ (w56 16 0) < 4 then
          some ((w56 16 0), (wset (wset (wset (wset (wset (wset w56 17 (w56 16 0).toNat x1) 18 (w56 16 0).toNat x2) 19 (w56 16 0).toNat x3) 20 (w56 16 0).toNat x4) 21 (w56 16 0).toNat x5) 16 0 ((w56 16 0) + 1)))
          else none)
          else none)
          else none)
          else none)
          else none)
        else
          some ((-1), w56)))))
    have J56 : ∀ (z56_0 : Int) (w56 : Wd), ((if wr z27_0 = 0 then
      some ((-1), w56)
    else
      (if wr z56_0 = 0 then
        some ((-1), w56)
      else
        (if wr (w56 16 0) < wr 4 then
          (if 0 ≤ (w56 16 0) ∧ (w56 16 0) < 4 then
          (if 0 ≤ (w56 16 0) ∧ (w56 16 0) < 4 then
          (if (0 ≤ (w56 16 0) ∧ (w56 16 0) < 4) ∧ (x3 = 0 ∨ x3 = 1) then
          (if 0 ≤ (w56 16 0) ∧ (w56 16 0) < 4 then
          (if 0 ≤ (w56 16 0) ∧ (w56 16 0) < 4 then
          some ((w56 16 0), (wset (wset (wset (wset (wset (wset w56 17 (w56 16 0).toNat x1) 18 (w56 16 0).toNat x2) 19 (w56 16 0).toNat x3) 20 (w56 16 0).toNat x4) 21 (w56 16 0).toNat x5) 16 0 ((w56 16 0) + 1)))
          else none)
          else none)
          else none)
          else none)
          else none)
        else
          some ((-1), w56))))) = some v → G κ D LAY ad 0 0 w56 56 [(0, .ref (ad 0)), (1, iv x1), (2, iv x2), (3, iv x3), (4, iv x4), (5, iv x5), (6, iv z27_0)] [iv z56_0] := by
      intro z56_0 w56 h
      refine g_istore X [1, 2, 3, 4, 5, 6, 7, 0] (ls1 := [(0, .ref (ad 0)), (1, iv x1), (2, iv x2), (3, iv x3), (4, iv x4), (5, iv x5), (6, iv z27_0), (7, iv z56_0)]) dX3_quay_56 (by decide) rfl ?_
      refine g_iload X 6 dX3_quay_58 rfl ?_
      refine g_if_eq X h dX3_quay_60 (tgt := 79) (by decide) (fun h => ?_) (fun h => ?_)
      · refine g_iconst X dX3_quay_79 ?_
        exact g_iret X Z h dX3_quay_80
      · refine g_iload X 7 dX3_quay_63 rfl ?_
        refine g_if_eq X h dX3_quay_65 (tgt := 79) (by decide) (fun h => ?_) (fun h => ?_)
        · refine g_iconst X dX3_quay_79 ?_
          exact g_iret X Z h dX3_quay_80
        · refine g_aload_n X 0 dX3_quay_68 rfl rfl ?_
          refine gf_X3_26 X dX3_quay_69 ?_
          refine gf_X3_93 X dX3_quay_72 ?_
          refine g_iconst X dX3_quay_75 ?_
          refine g_icmp_lt X h dX3_quay_76 (tgt := 81) (by decide) (fun h => ?_) (fun h => ?_)
          · refine g_aload_n X 0 dX3_quay_81 rfl rfl ?_
            refine gf_X3_26 X dX3_quay_82 ?_
            refine gf_X3_93 X dX3_quay_85 ?_
            refine g_istore X [1, 2, 3, 4, 5, 6, 7, 8, 0] (ls1 := [(0, .ref (ad 0)), (1, iv x1), (2, iv x2), (3, iv x3), (4, iv x4), (5, iv x5), (6, iv z27_0), (7, iv z56_0), (8, iv (w56 16 0))]) dX3_quay_88 (by decide) rfl ?_
            refine g_aload_n X 0 dX3_quay_90 rfl rfl ?_
            refine gf_X3_26 X dX3_quay_91 ?_
            refine gf_X3_94 X dX3_quay_94 ?_
            refine g_iload X 8 dX3_quay_97 rfl ?_
            refine g_iload_n X 1 dX3_quay_99 rfl rfl ?_
            refine g_iast X (n := 4) (c := 17) h rfl (by decide) dX3_quay_100 (fun h => ?_)
            refine g_aload_n X 0 dX3_quay_101 rfl rfl ?_
            refine gf_X3_26 X dX3_quay_102 ?_
            refine gf_X3_95 X dX3_quay_105 ?_
            refine g_iload X 8 dX3_quay_108 rfl ?_
            refine g_iload_n X 2 dX3_quay_110 rfl rfl ?_
            refine g_iast X (n := 4) (c := 18) h rfl (by decide) dX3_quay_111 (fun h => ?_)
            refine g_aload_n X 0 dX3_quay_112 rfl rfl ?_
            refine gf_X3_26 X dX3_quay_113 ?_
            refine gf_X3_98 X dX3_quay_116 ?_
            refine g_iload X 8 dX3_quay_119 rfl ?_
            refine g_iload_n X 3 dX3_quay_121 rfl rfl ?_
            refine g_zast X (n := 4) (c := 19) h rfl (by decide) dX3_quay_122 (fun h => ?_)
            refine g_aload_n X 0 dX3_quay_123 rfl rfl ?_
            refine gf_X3_26 X dX3_quay_124 ?_
            refine gf_X3_102 X dX3_quay_127 ?_
            refine g_iload X 8 dX3_quay_130 rfl ?_
            refine g_iload X 4 dX3_quay_132 rfl ?_
            refine g_iast X (n := 4) (c := 20) h rfl (by decide) dX3_quay_134 (fun h => ?_)
            refine g_aload_n X 0 dX3_quay_135 rfl rfl ?_
            refine gf_X3_26 X dX3_quay_136 ?_
            refine gf_X3_105 X dX3_quay_139 ?_
            refine g_iload X 8 dX3_quay_142 rfl ?_
            refine g_iload X 5 dX3_quay_144 rfl ?_
            refine g_iast X (n := 4) (c := 21) h rfl (by decide) dX3_quay_146 (fun h => ?_)
            refine g_aload_n X 0 dX3_quay_147 rfl rfl ?_
            refine gf_X3_26 X dX3_quay_148 ?_
            refine g_iload X 8 dX3_quay_151 rfl ?_
            refine g_iconst X dX3_quay_153 ?_
            refine g_iadd X dX3_quay_154 ?_
            refine gp_X3_93 X dX3_quay_155 ?_
            refine g_iload X 8 dX3_quay_158 rfl ?_
            exact g_iret X Z h dX3_quay_160
          · refine g_iconst X dX3_quay_79 ?_
            exact g_iret X Z h dX3_quay_80
    let j55 := fun (w55 : Wd) => ((j56 0 w55))
    have J55 : ∀ (w55 : Wd), ((j56 0 w55)) = some v → G κ D LAY ad 0 0 w55 55 [(0, .ref (ad 0)), (1, iv x1), (2, iv x2), (3, iv x3), (4, iv x4), (5, iv x5), (6, iv z27_0)] [] := by
      intro w55 h
      refine g_iconst X dX3_quay_55 ?_
      exact J56 0 w55 h
    refine g_if_eq X h dX3_quay_37 (tgt := 55) (by decide) (fun h => ?_) (fun h => ?_)
    · exact J55 q34.2 h
    · refine g_iload X 5 dX3_quay_40 rfl ?_
      refine g_iconst X dX3_quay_42 ?_
      refine g_bipush X 120 dX3_quay_43 (by decide) ?_
      obtain ⟨q45, e45, h⟩ := bindE h
      refine g_callSi X (st := []) [iv x5, iv 0, iv 120] (mc_x_within e45) cal_X3_within wm_X3_44 (by decide) rfl rfl ⟨by decide, by decide⟩ rfl (Nat.le_of_ble_eq_true rfl) dX3_quay_45 ?_
      refine g_if_eq X h dX3_quay_48 (tgt := 55) (by decide) (fun h => ?_) (fun h => ?_)
      · exact J55 q45.2 h
      · refine g_iconst X dX3_quay_51 ?_
        refine g_goto X (tgt := 56) dX3_quay_52 (by decide) ?_
        exact J56 1 q45.2 h
  let j26 := fun (w26 : Wd) => ((j27 0 w26))
  have J26 : ∀ (w26 : Wd), ((j27 0 w26)) = some v → G κ D LAY ad 0 0 w26 26 [(0, .ref (ad 0)), (1, iv x1), (2, iv x2), (3, iv x3), (4, iv x4), (5, iv x5)] [] := by
    intro w26 h
    refine g_iconst X dX3_quay_26 ?_
    exact J27 0 w26 h
  refine g_if_eq X h dX3_quay_8 (tgt := 26) (by decide) (fun h => ?_) (fun h => ?_)
  · exact J26 q5.2 h
  · refine g_iload_n X 2 dX3_quay_11 rfl rfl ?_
    refine g_iconst X dX3_quay_12 ?_
    refine g_sipush X 200 dX3_quay_13 (by decide) ?_
    obtain ⟨q16, e16, h⟩ := bindE h
    refine g_callSi X (st := []) [iv x2, iv 1, iv 200] (mc_x_within e16) cal_X3_within wm_X3_44 (by decide) rfl rfl ⟨by decide, by decide⟩ rfl (Nat.le_of_ble_eq_true rfl) dX3_quay_16 ?_
    refine g_if_eq X h dX3_quay_19 (tgt := 26) (by decide) (fun h => ?_) (fun h => ?_)
    · exact J26 q16.2 h
    · refine g_iconst X dX3_quay_22 ?_
      refine g_goto X (tgt := 27) dX3_quay_23 (by decide) ?_
      exact J27 1 q16.2 h

/-! TallShips.foul -/
noncomputable def x_foul (x1 x2 x3 : Int) (w : Wd) : Option (Int × Wd) :=
  ((fl_has x1 w).bind fun q5 =>
  (if wr q5.1 = 0 then
    some (0, q5.2)
  else
    ((fl_has x2 q5.2).bind fun q16 =>
    (if wr q16.1 = 0 then
      some (0, q16.2)
    else
      (if wr x1 = wr x2 then
        some (0, q16.2)
      else
        (if wr x3 = 0 then
          (if 0 ≤ x1 ∧ x1 < 7 then
          (if 0 ≤ x1 ∧ x1 < 7 then
          (if 0 ≤ x2 ∧ x2 < 7 then
          (if 0 ≤ x2 ∧ x2 < 7 then
          some (1, (wset (wset q16.2 13 x1.toNat (band (q16.2 13 x1.toNat) (bxor (bshl 1 x2) (-1)))) 13 x2.toNat (band ((wset q16.2 13 x1.toNat (band (q16.2 13 x1.toNat) (bxor (bshl 1 x2) (-1)))) 13 x2.toNat) (bxor (bshl 1 x1) (-1)))))
          else none)
          else none)
          else none)
          else none)
        else
          (if 0 ≤ x1 ∧ x1 < 7 then
          (if 0 ≤ x1 ∧ x1 < 7 then
          (if 0 ≤ x2 ∧ x2 < 7 then
          (if 0 ≤ x2 ∧ x2 < 7 then
          some (1, (wset (wset q16.2 13 x1.toNat (bor (q16.2 13 x1.toNat) (bshl 1 x2))) 13 x2.toNat (bor ((wset q16.2 13 x1.toNat (bor (q16.2 13 x1.toNat) (bshl 1 x2))) 13 x2.toNat) (bshl 1 x1))))
          else none)
          else none)
          else none)
          else none)))))))
theorem mc_x_foul {lc : Launch} {D : CX} {ad : Nat → Nat} {w : Wd} {x1 x2 x3 : Int} {v : Int × Wd} (h : x_foul x1 x2 x3 w = some v) : Mc lc yX3_foul cX3_foul 4 (some .boolean) rmX3_foul D LAY ad [.ref (ad 0), iv x1, iv x2, iv x3] w (some (iv v.1)) v.2 0 0 := by
  refine mc_of (by decide) (Nat.le_of_ble_eq_true rfl) ?_
  intro κ X Z
  show G κ D LAY ad 0 0 w 0 [(0, .ref (ad 0)), (1, iv x1), (2, iv x2), (3, iv x3)] []
  unfold x_foul at h
  refine g_aload_n X 0 dX3_foul_0 rfl rfl ?_
  refine gf_X3_19 X dX3_foul_1 ?_
  refine g_iload_n X 1 dX3_foul_4 rfl rfl ?_
  obtain ⟨q5, e5, h⟩ := bindE h
  refine g_callVi X (st := []) 5 [iv x1] (mc_fl_has e5) cal_X0_has rfl rfl wm_X3_108 (by decide) rfl rfl ⟨by decide, by decide⟩ rfl (Nat.le_of_ble_eq_true rfl) dX3_foul_5 ?_
  refine g_if_eq X h dX3_foul_8 (tgt := 27) (by decide) (fun h => ?_) (fun h => ?_)
  · refine g_iconst X dX3_foul_27 ?_
    exact g_zretC X Z h (by decide) dX3_foul_28
  · refine g_aload_n X 0 dX3_foul_11 rfl rfl ?_
    refine gf_X3_19 X dX3_foul_12 ?_
    refine g_iload_n X 2 dX3_foul_15 rfl rfl ?_
    obtain ⟨q16, e16, h⟩ := bindE h
    refine g_callVi X (st := []) 5 [iv x2] (mc_fl_has e16) cal_X0_has rfl rfl wm_X3_108 (by decide) rfl rfl ⟨by decide, by decide⟩ rfl (Nat.le_of_ble_eq_true rfl) dX3_foul_16 ?_
    refine g_if_eq X h dX3_foul_19 (tgt := 27) (by decide) (fun h => ?_) (fun h => ?_)
    · refine g_iconst X dX3_foul_27 ?_
      exact g_zretC X Z h (by decide) dX3_foul_28
    · refine g_iload_n X 1 dX3_foul_22 rfl rfl ?_
      refine g_iload_n X 2 dX3_foul_23 rfl rfl ?_
      refine g_icmp_ne X h dX3_foul_24 (tgt := 29) (by decide) (fun h => ?_) (fun h => ?_)
      · refine g_iload_n X 3 dX3_foul_29 rfl rfl ?_
        refine g_if_eq X h dX3_foul_30 (tgt := 66) (by decide) (fun h => ?_) (fun h => ?_)
        · refine g_aload_n X 0 dX3_foul_66 rfl rfl ?_
          refine gf_X3_19 X dX3_foul_67 ?_
          refine gf_X3_111 X dX3_foul_70 ?_
          refine g_iload_n X 1 dX3_foul_73 rfl rfl ?_
          refine g_dup2 X dX3_foul_74 rfl rfl ?_
          refine g_iald X (n := 7) (c := 13) h rfl (by decide) dX3_foul_75 (fun h => ?_)
          refine g_iconst X dX3_foul_76 ?_
          refine g_iload_n X 2 dX3_foul_77 rfl rfl ?_
          refine g_ishl X dX3_foul_78 ?_
          refine g_iconst X dX3_foul_79 ?_
          refine g_ixor X dX3_foul_80 ?_
          refine g_iand X dX3_foul_81 ?_
          refine g_iast X (n := 7) (c := 13) h rfl (by decide) dX3_foul_82 (fun h => ?_)
          refine g_aload_n X 0 dX3_foul_83 rfl rfl ?_
          refine gf_X3_19 X dX3_foul_84 ?_
          refine gf_X3_111 X dX3_foul_87 ?_
          refine g_iload_n X 2 dX3_foul_90 rfl rfl ?_
          refine g_dup2 X dX3_foul_91 rfl rfl ?_
          refine g_iald X (n := 7) (c := 13) h rfl (by decide) dX3_foul_92 (fun h => ?_)
          refine g_iconst X dX3_foul_93 ?_
          refine g_iload_n X 1 dX3_foul_94 rfl rfl ?_
          refine g_ishl X dX3_foul_95 ?_
          refine g_iconst X dX3_foul_96 ?_
          refine g_ixor X dX3_foul_97 ?_
          refine g_iand X dX3_foul_98 ?_
          refine g_iast X (n := 7) (c := 13) h rfl (by decide) dX3_foul_99 (fun h => ?_)
          refine g_iconst X dX3_foul_100 ?_
          exact g_zretC X Z h (by decide) dX3_foul_101
        · refine g_aload_n X 0 dX3_foul_33 rfl rfl ?_
          refine gf_X3_19 X dX3_foul_34 ?_
          refine gf_X3_111 X dX3_foul_37 ?_
          refine g_iload_n X 1 dX3_foul_40 rfl rfl ?_
          refine g_dup2 X dX3_foul_41 rfl rfl ?_
          refine g_iald X (n := 7) (c := 13) h rfl (by decide) dX3_foul_42 (fun h => ?_)
          refine g_iconst X dX3_foul_43 ?_
          refine g_iload_n X 2 dX3_foul_44 rfl rfl ?_
          refine g_ishl X dX3_foul_45 ?_
          refine g_ior X dX3_foul_46 ?_
          refine g_iast X (n := 7) (c := 13) h rfl (by decide) dX3_foul_47 (fun h => ?_)
          refine g_aload_n X 0 dX3_foul_48 rfl rfl ?_
          refine gf_X3_19 X dX3_foul_49 ?_
          refine gf_X3_111 X dX3_foul_52 ?_
          refine g_iload_n X 2 dX3_foul_55 rfl rfl ?_
          refine g_dup2 X dX3_foul_56 rfl rfl ?_
          refine g_iald X (n := 7) (c := 13) h rfl (by decide) dX3_foul_57 (fun h => ?_)
          refine g_iconst X dX3_foul_58 ?_
          refine g_iload_n X 1 dX3_foul_59 rfl rfl ?_
          refine g_ishl X dX3_foul_60 ?_
          refine g_ior X dX3_foul_61 ?_
          refine g_iast X (n := 7) (c := 13) h rfl (by decide) dX3_foul_62 (fun h => ?_)
          refine g_goto X (tgt := 100) dX3_foul_63 (by decide) ?_
          refine g_iconst X dX3_foul_100 ?_
          exact g_zretC X Z h (by decide) dX3_foul_101
      · refine g_iconst X dX3_foul_27 ?_
        exact g_zretC X Z h (by decide) dX3_foul_28

/-! TallShips.arrives -/
noncomputable def x_arrives (x1 x2 : Int) (w : Wd) : Option (Int × Wd) :=
  ((fl_has x1 w).bind fun q5 =>
  (if wr q5.1 = 0 then
    some ((-1), q5.2)
  else
    ((x_isHour x2 q5.2).bind fun q12 =>
    (if wr q12.1 = 0 then
      some ((-1), q12.2)
    else
      (if 0 ≤ x1 ∧ x1 < 7 then
      (if 0 ≤ x1 ∧ x1 < 7 then
      some ((q12.2 11 x1.toNat), (wset q12.2 11 x1.toNat x2))
      else none)
      else none)))))
theorem mc_x_arrives {lc : Launch} {D : CX} {ad : Nat → Nat} {w : Wd} {x1 x2 : Int} {v : Int × Wd} (h : x_arrives x1 x2 w = some v) : Mc lc yX3_arrives cX3_arrives 4 (some .int) rmX3_arrives D LAY ad [.ref (ad 0), iv x1, iv x2] w (some (iv v.1)) v.2 0 0 := by
  refine mc_of (by decide) (Nat.le_of_ble_eq_true rfl) ?_
  intro κ X Z
  show G κ D LAY ad 0 0 w 0 [(0, .ref (ad 0)), (1, iv x1), (2, iv x2)] []
  unfold x_arrives at h
  refine g_aload_n X 0 dX3_arrives_0 rfl rfl ?_
  refine gf_X3_19 X dX3_arrives_1 ?_
  refine g_iload_n X 1 dX3_arrives_4 rfl rfl ?_
  obtain ⟨q5, e5, h⟩ := bindE h
  refine g_callVi X (st := []) 5 [iv x1] (mc_fl_has e5) cal_X0_has rfl rfl wm_X3_108 (by decide) rfl rfl ⟨by decide, by decide⟩ rfl (Nat.le_of_ble_eq_true rfl) dX3_arrives_5 ?_
  refine g_if_eq X h dX3_arrives_8 (tgt := 18) (by decide) (fun h => ?_) (fun h => ?_)
  · refine g_iconst X dX3_arrives_18 ?_
    exact g_iret X Z h dX3_arrives_19
  · refine g_iload_n X 2 dX3_arrives_11 rfl rfl ?_
    obtain ⟨q12, e12, h⟩ := bindE h
    refine g_callSi X (st := []) [iv x2] (mc_x_isHour e12) cal_X3_isHour wm_X3_64 (by decide) rfl rfl ⟨by decide, by decide⟩ rfl (Nat.le_of_ble_eq_true rfl) dX3_arrives_12 ?_
    refine g_if_ne X h dX3_arrives_15 (tgt := 20) (by decide) (fun h => ?_) (fun h => ?_)
    · refine g_aload_n X 0 dX3_arrives_20 rfl rfl ?_
      refine gf_X3_19 X dX3_arrives_21 ?_
      refine gf_X3_87 X dX3_arrives_24 ?_
      refine g_iload_n X 1 dX3_arrives_27 rfl rfl ?_
      refine g_iald X (n := 7) (c := 11) h rfl (by decide) dX3_arrives_28 (fun h => ?_)
      refine g_istore_n X [1, 2, 3, 0] (ls1 := [(0, .ref (ad 0)), (1, iv x1), (2, iv x2), (3, iv (q12.2 11 x1.toNat))]) dX3_arrives_29 rfl (by decide) rfl ?_
      refine g_aload_n X 0 dX3_arrives_30 rfl rfl ?_
      refine gf_X3_19 X dX3_arrives_31 ?_
      refine gf_X3_87 X dX3_arrives_34 ?_
      refine g_iload_n X 1 dX3_arrives_37 rfl rfl ?_
      refine g_iload_n X 2 dX3_arrives_38 rfl rfl ?_
      refine g_iast X (n := 7) (c := 11) h rfl (by decide) dX3_arrives_39 (fun h => ?_)
      refine g_iload_n X 3 dX3_arrives_40 rfl rfl ?_
      exact g_iret X Z h dX3_arrives_41
    · refine g_iconst X dX3_arrives_18 ?_
      exact g_iret X Z h dX3_arrives_19

/-! TallShips.showAt -/
noncomputable def x_showAt (x1 x2 : Int) (w : Wd) : Option (Int × Wd) :=
  ((qy_has x2 w).bind fun q5 =>
  (if wr q5.1 = 0 then
    some (0, q5.2)
  else
    (if 0 ≤ x1 ∧ x1 < 7 then
    (if 0 ≤ x2 ∧ x2 < 4 then
    some (((q5.2 9 x1.toNat) * (q5.2 20 x2.toNat)), q5.2)
    else none)
    else none)))
theorem mc_x_showAt {lc : Launch} {D : CX} {ad : Nat → Nat} {w : Wd} {x1 x2 : Int} {v : Int × Wd} (h : x_showAt x1 x2 w = some v) : Mc lc yX3_showAt cX3_showAt 3 (some .int) rmX3_showAt D LAY ad [.ref (ad 0), iv x1, iv x2] w (some (iv v.1)) v.2 0 0 := by
  refine mc_of (by decide) (Nat.le_of_ble_eq_true rfl) ?_
  intro κ X Z
  show G κ D LAY ad 0 0 w 0 [(0, .ref (ad 0)), (1, iv x1), (2, iv x2)] []
  unfold x_showAt at h
  refine g_aload_n X 0 dX3_showAt_0 rfl rfl ?_
  refine gf_X3_26 X dX3_showAt_1 ?_
  refine g_iload_n X 2 dX3_showAt_4 rfl rfl ?_
  obtain ⟨q5, e5, h⟩ := bindE h
  refine g_callVi X (st := []) 16 [iv x2] (mc_qy_has e5) cal_X1_has rfl rfl wm_X3_137 (by decide) rfl rfl ⟨by decide, by decide⟩ rfl (Nat.le_of_ble_eq_true rfl) dX3_showAt_5 ?_
  refine g_if_eq X h dX3_showAt_8 (tgt := 33) (by decide) (fun h => ?_) (fun h => ?_)
  · refine g_iconst X dX3_showAt_33 ?_
    exact g_iret X Z h dX3_showAt_34
  · refine g_aload_n X 0 dX3_showAt_11 rfl rfl ?_
    refine gf_X3_19 X dX3_showAt_12 ?_
    refine gf_X3_81 X dX3_showAt_15 ?_
    refine g_iload_n X 1 dX3_showAt_18 rfl rfl ?_
    refine g_iald X (n := 7) (c := 9) h rfl (by decide) dX3_showAt_19 (fun h => ?_)
    refine g_aload_n X 0 dX3_showAt_20 rfl rfl ?_
    refine gf_X3_26 X dX3_showAt_21 ?_
    refine gf_X3_102 X dX3_showAt_24 ?_
    refine g_iload_n X 2 dX3_showAt_27 rfl rfl ?_
    refine g_iald X (n := 4) (c := 20) h rfl (by decide) dX3_showAt_28 (fun h => ?_)
    refine g_imul X dX3_showAt_29 ?_
    refine g_goto X (tgt := 34) dX3_showAt_30 (by decide) ?_
    exact g_iret X Z h dX3_showAt_34

/-! TallShips.showOfBerths -/
noncomputable def x_showOfBerths_4 : Nat → Int → Int → Wd → Option (Int × Wd)
  | 0, _, _, _ => none
  | n + 1, x1, x2, w =>
    (if wr (w 5 0) ≤ wr x2 then
      some (x1, w)
    else
      (if 0 ≤ x2 ∧ x2 < 7 then
      ((x_showAt x2 (w 14 x2.toNat) w).bind fun q27 =>
      (x_showOfBerths_4 n (x1 + q27.1) (x2 + 1) q27.2))
      else none))
theorem x_showOfBerths_4_ok {lc : Launch} {κ : KX} {D : CX} {ad : Nat → Nat} {v : Int × Wd} (X : gX κ D cX3_showOfBerths RX3 rmX3_showOfBerths lc 3) (Z : gQ κ D LAY ad (some .int) (some (iv v.1)) v.2 0 0) : ∀ (n : Nat) (x1 : Int) (x2 : Int) (w : Wd), x_showOfBerths_4 n x1 x2 w = some v → G κ D LAY ad 0 0 w 4 [(0, .ref (ad 0)), (1, iv x1), (2, iv x2)] [] := by
  intro n
  induction n with
  | zero =>
    intro x1 x2 w h
    cases h
  | succ n ih =>
    intro x1 x2 w h
    rw [x_showOfBerths_4] at h
    refine g_iload_n X 2 dX3_showOfBerths_4 rfl rfl ?_
    refine g_aload_n X 0 dX3_showOfBerths_5 rfl rfl ?_
    refine gf_X3_19 X dX3_showOfBerths_6 ?_
    refine gf_X3_68 X dX3_showOfBerths_9 ?_
    refine g_icmp_ge X h dX3_showOfBerths_12 (tgt := 38) (by decide) (fun h => ?_) (fun h => ?_)
    · refine g_iload_n X 1 dX3_showOfBerths_38 rfl rfl ?_
      exact g_iret X Z h dX3_showOfBerths_39
    · refine g_iload_n X 1 dX3_showOfBerths_15 rfl rfl ?_
      refine g_aload_n X 0 dX3_showOfBerths_16 rfl rfl ?_
      refine g_iload_n X 2 dX3_showOfBerths_17 rfl rfl ?_
      refine g_aload_n X 0 dX3_showOfBerths_18 rfl rfl ?_
      refine gf_X3_19 X dX3_showOfBerths_19 ?_
      refine gf_X3_142 X dX3_showOfBerths_22 ?_
      refine g_iload_n X 2 dX3_showOfBerths_25 rfl rfl ?_
      refine g_iald X (n := 7) (c := 14) h rfl (by decide) dX3_showOfBerths_26 (fun h => ?_)
      obtain ⟨q27, e27, h⟩ := bindE h
      refine g_callVi X (st := [iv x1]) 0 [iv x2, iv (w 14 x2.toNat)] (mc_x_showAt e27) cal_X3_showAt rfl rfl wm_X3_221 (by decide) rfl rfl ⟨by decide, by decide⟩ rfl (Nat.le_of_ble_eq_true rfl) dX3_showOfBerths_27 ?_
      refine g_iadd X dX3_showOfBerths_30 ?_
      refine g_istore_n X [1, 0, 2] (ls1 := [(0, .ref (ad 0)), (1, iv (x1 + q27.1)), (2, iv x2)]) dX3_showOfBerths_31 rfl (by decide) rfl ?_
      refine g_iinc X 2 [1, 2, 0] (ls1 := [(0, .ref (ad 0)), (1, iv (x1 + q27.1)), (2, iv (x2 + 1))]) dX3_showOfBerths_32 rfl (by decide) rfl ?_
      refine g_goto X (tgt := 4) dX3_showOfBerths_35 (by decide) ?_
      exact ih (x1 + q27.1) (x2 + 1) q27.2 h
noncomputable def x_showOfBerths (w : Wd) : Option (Int × Wd) :=
  (x_showOfBerths_4 FU 0 0 w)
theorem mc_x_showOfBerths {lc : Launch} {D : CX} {ad : Nat → Nat} {w : Wd} {v : Int × Wd} (h : x_showOfBerths w = some v) : Mc lc yX3_showOfBerths cX3_showOfBerths 3 (some .int) rmX3_showOfBerths D LAY ad [.ref (ad 0)] w (some (iv v.1)) v.2 0 0 := by
  refine mc_of (by decide) (Nat.le_of_ble_eq_true rfl) ?_
  intro κ X Z
  show G κ D LAY ad 0 0 w 0 [(0, .ref (ad 0))] []
  unfold x_showOfBerths at h
  refine g_iconst X dX3_showOfBerths_0 ?_
  refine g_istore_n X [1, 0] (ls1 := [(0, .ref (ad 0)), (1, iv 0)]) dX3_showOfBerths_1 rfl (by decide) rfl ?_
  refine g_iconst X dX3_showOfBerths_2 ?_
  refine g_istore_n X [1, 2, 0] (ls1 := [(0, .ref (ad 0)), (1, iv 0), (2, iv 0)]) dX3_showOfBerths_3 rfl (by decide) rfl ?_
  refine x_showOfBerths_4_ok X Z FU 0 0 w h

/-! TallShips.count -/
noncomputable def x_count (x1 : Int) (w : Wd) : Option (Int × Wd) :=
  (if wr x1 = 0 then
    some ((w 5 0), w)
  else
  (if wr x1 = 1 then
    some ((w 16 0), w)
  else
  (if wr x1 = 2 then
    ((fl_berthed w).bind fun q60 =>
    ((ji_bitCount q60.1 q60.2).bind fun q63 =>
    some (q63.1, q63.2)))
  else
  (if wr x1 = 3 then
    ((x_showOfBerths w).bind fun q68 =>
    some (q68.1, q68.2))
  else
  (if wr x1 = 4 then
    ((rv_leastLevel w).bind fun q76 =>
    some (q76.1, q76.2))
  else
  (if wr x1 = 5 then
    ((rv_greatestLevel w).bind fun q84 =>
    some (q84.1, q84.2))
  else
    some ((-1), w)))))))
theorem mc_x_count {lc : Launch} {D : CX} {ad : Nat → Nat} {w : Wd} {x1 : Int} {v : Int × Wd} (h : x_count x1 w = some v) : Mc lc yX3_count cX3_count 2 (some .int) rmX3_count D LAY ad [.ref (ad 0), iv x1] w (some (iv v.1)) v.2 0 0 := by
  refine mc_of (by decide) (Nat.le_of_ble_eq_true rfl) ?_
  intro κ X Z
  show G κ D LAY ad 0 0 w 0 [(0, .ref (ad 0)), (1, iv x1)] []
  unfold x_count at h
  refine g_iload_n X 1 dX3_count_0 rfl rfl ?_
  by_cases e1_0 : wr x1 = 0
  · rw [if_pos e1_0] at h
    refine g_tableIn X 0 e1_0 dX3_count_1 (by decide) (by decide) rfl (tgt := 40) (by decide) ?_
    refine g_aload_n X 0 dX3_count_40 rfl rfl ?_
    refine gf_X3_19 X dX3_count_41 ?_
    refine gf_X3_68 X dX3_count_44 ?_
    exact g_iret X Z h dX3_count_47
  rw [if_neg e1_0] at h
  by_cases e1_1 : wr x1 = 1
  · rw [if_pos e1_1] at h
    refine g_tableIn X 1 e1_1 dX3_count_1 (by decide) (by decide) rfl (tgt := 48) (by decide) ?_
    refine g_aload_n X 0 dX3_count_48 rfl rfl ?_
    refine gf_X3_26 X dX3_count_49 ?_
    refine gf_X3_93 X dX3_count_52 ?_
    exact g_iret X Z h dX3_count_55
  rw [if_neg e1_1] at h
  by_cases e1_2 : wr x1 = 2
  · rw [if_pos e1_2] at h
    refine g_tableIn X 2 e1_2 dX3_count_1 (by decide) (by decide) rfl (tgt := 56) (by decide) ?_
    refine g_aload_n X 0 dX3_count_56 rfl rfl ?_
    refine gf_X3_19 X dX3_count_57 ?_
    obtain ⟨q60, e60, h⟩ := bindE h
    refine g_callVi X (st := []) 5 [] (mc_fl_berthed e60) cal_X0_berthed rfl rfl wm_X3_114 (by decide) rfl rfl ⟨by decide, by decide⟩ rfl (Nat.le_of_ble_eq_true rfl) dX3_count_60 ?_
    obtain ⟨q63, e63, h⟩ := bindE h
    refine g_callSi X (st := []) [iv q60.1] (mc_ji_bitCount e63) cal_J6_bitCount_0f7a4 wm_X3_118 (by decide) rfl rfl ⟨by decide, by decide⟩ rfl (Nat.le_of_ble_eq_true rfl) dX3_count_63 ?_
    exact g_iret X Z h dX3_count_66
  rw [if_neg e1_2] at h
  by_cases e1_3 : wr x1 = 3
  · rw [if_pos e1_3] at h
    refine g_tableIn X 3 e1_3 dX3_count_1 (by decide) (by decide) rfl (tgt := 67) (by decide) ?_
    refine g_aload_n X 0 dX3_count_67 rfl rfl ?_
    obtain ⟨q68, e68, h⟩ := bindE h
    refine g_callVi X (st := []) 0 [] (mc_x_showOfBerths e68) cal_X3_showOfBerths rfl rfl wm_X3_124 (by decide) rfl rfl ⟨by decide, by decide⟩ rfl (Nat.le_of_ble_eq_true rfl) dX3_count_68 ?_
    exact g_iret X Z h dX3_count_71
  rw [if_neg e1_3] at h
  by_cases e1_4 : wr x1 = 4
  · rw [if_pos e1_4] at h
    refine g_tableIn X 4 e1_4 dX3_count_1 (by decide) (by decide) rfl (tgt := 72) (by decide) ?_
    refine g_aload_n X 0 dX3_count_72 rfl rfl ?_
    refine gf_X3_12 X dX3_count_73 ?_
    obtain ⟨q76, e76, h⟩ := bindE h
    refine g_callVi X (st := []) 1 [] (mc_rv_leastLevel e76) cal_X2_leastLevel rfl rfl wm_X3_127 (by decide) rfl rfl ⟨by decide, by decide⟩ rfl (Nat.le_of_ble_eq_true rfl) dX3_count_76 ?_
    exact g_iret X Z h dX3_count_79
  rw [if_neg e1_4] at h
  by_cases e1_5 : wr x1 = 5
  · rw [if_pos e1_5] at h
    refine g_tableIn X 5 e1_5 dX3_count_1 (by decide) (by decide) rfl (tgt := 80) (by decide) ?_
    refine g_aload_n X 0 dX3_count_80 rfl rfl ?_
    refine gf_X3_12 X dX3_count_81 ?_
    obtain ⟨q84, e84, h⟩ := bindE h
    refine g_callVi X (st := []) 1 [] (mc_rv_greatestLevel e84) cal_X2_greatestLevel rfl rfl wm_X3_130 (by decide) rfl rfl ⟨by decide, by decide⟩ rfl (Nat.le_of_ble_eq_true rfl) dX3_count_84 ?_
    exact g_iret X Z h dX3_count_87
  rw [if_neg e1_5] at h
  refine g_tableOut X (by omega) dX3_count_1 (tgt := 88) (by decide) ?_
  refine g_iconst X dX3_count_88 ?_
  exact g_iret X Z h dX3_count_89

/-! TallShips.canCross -/
noncomputable def x_canCross (x1 x2 : Int) (w : Wd) : Option (Int × Wd) :=
  (if 0 ≤ x1 ∧ x1 < 7 then
  (if wr ((w 4 0) + x2) < wr ((w 7 x1.toNat) + (w 4 2)) then
    some (0, w)
  else
    some (1, w))
  else none)
theorem mc_x_canCross {lc : Launch} {D : CX} {ad : Nat → Nat} {w : Wd} {x1 x2 : Int} {v : Int × Wd} (h : x_canCross x1 x2 w = some v) : Mc lc yX3_canCross cX3_canCross 4 (some .boolean) rmX3_canCross D LAY ad [.ref (ad 0), iv x1, iv x2] w (some (iv v.1)) v.2 0 0 := by
  refine mc_of (by decide) (Nat.le_of_ble_eq_true rfl) ?_
  intro κ X Z
  show G κ D LAY ad 0 0 w 0 [(0, .ref (ad 0)), (1, iv x1), (2, iv x2)] []
  unfold x_canCross at h
  refine g_aload_n X 0 dX3_canCross_0 rfl rfl ?_
  refine gf_X3_19 X dX3_canCross_1 ?_
  refine gf_X3_75 X dX3_canCross_4 ?_
  refine g_iload_n X 1 dX3_canCross_7 rfl rfl ?_
  refine g_iald X (n := 7) (c := 7) h rfl (by decide) dX3_canCross_8 (fun h => ?_)
  refine g_aload_n X 0 dX3_canCross_9 rfl rfl ?_
  refine gf_X3_12 X dX3_canCross_10 ?_
  refine gf_X3_54 X dX3_canCross_13 ?_
  refine g_iconst X dX3_canCross_16 ?_
  refine g_ialdC X 2 (n := 5) (c := 4) (by decide) (by decide) rfl (by decide) dX3_canCross_17 ?_
  refine g_iadd X dX3_canCross_18 ?_
  refine g_istore_n X [1, 2, 3, 0] (ls1 := [(0, .ref (ad 0)), (1, iv x1), (2, iv x2), (3, iv ((w 7 x1.toNat) + (w 4 2)))]) dX3_canCross_19 rfl (by decide) rfl ?_
  refine g_aload_n X 0 dX3_canCross_20 rfl rfl ?_
  refine gf_X3_12 X dX3_canCross_21 ?_
  refine gf_X3_54 X dX3_canCross_24 ?_
  refine g_iconst X dX3_canCross_27 ?_
  refine g_ialdC X 0 (n := 5) (c := 4) (by decide) (by decide) rfl (by decide) dX3_canCross_28 ?_
  refine g_iload_n X 2 dX3_canCross_29 rfl rfl ?_
  refine g_iadd X dX3_canCross_30 ?_
  refine g_iload_n X 3 dX3_canCross_31 rfl rfl ?_
  refine g_icmp_lt X h dX3_canCross_32 (tgt := 39) (by decide) (fun h => ?_) (fun h => ?_)
  · refine g_iconst X dX3_canCross_39 ?_
    exact g_zretC X Z h (by decide) dX3_canCross_40
  · refine g_iconst X dX3_canCross_35 ?_
    refine g_goto X (tgt := 40) dX3_canCross_36 (by decide) ?_
    exact g_zretC X Z h (by decide) dX3_canCross_40

/-! TallShips.clearsBridge -/
noncomputable def x_clearsBridge (x1 x2 : Int) (w : Wd) : Option (Int × Wd) :=
  (if 0 ≤ x1 ∧ x1 < 7 then
  (if wr (w 4 1) < wr (((w 8 x1.toNat) + x2) + (w 4 2)) then
    some (0, w)
  else
    some (1, w))
  else none)
theorem mc_x_clearsBridge {lc : Launch} {D : CX} {ad : Nat → Nat} {w : Wd} {x1 x2 : Int} {v : Int × Wd} (h : x_clearsBridge x1 x2 w = some v) : Mc lc yX3_clearsBridge cX3_clearsBridge 4 (some .boolean) rmX3_clearsBridge D LAY ad [.ref (ad 0), iv x1, iv x2] w (some (iv v.1)) v.2 0 0 := by
  refine mc_of (by decide) (Nat.le_of_ble_eq_true rfl) ?_
  intro κ X Z
  show G κ D LAY ad 0 0 w 0 [(0, .ref (ad 0)), (1, iv x1), (2, iv x2)] []
  unfold x_clearsBridge at h
  refine g_aload_n X 0 dX3_clearsBridge_0 rfl rfl ?_
  refine gf_X3_19 X dX3_clearsBridge_1 ?_
  refine gf_X3_78 X dX3_clearsBridge_4 ?_
  refine g_iload_n X 1 dX3_clearsBridge_7 rfl rfl ?_
  refine g_iald X (n := 7) (c := 8) h rfl (by decide) dX3_clearsBridge_8 (fun h => ?_)
  refine g_iload_n X 2 dX3_clearsBridge_9 rfl rfl ?_
  refine g_iadd X dX3_clearsBridge_10 ?_
  refine g_aload_n X 0 dX3_clearsBridge_11 rfl rfl ?_
  refine gf_X3_12 X dX3_clearsBridge_12 ?_
  refine gf_X3_54 X dX3_clearsBridge_15 ?_
  refine g_iconst X dX3_clearsBridge_18 ?_
  refine g_ialdC X 2 (n := 5) (c := 4) (by decide) (by decide) rfl (by decide) dX3_clearsBridge_19 ?_
  refine g_iadd X dX3_clearsBridge_20 ?_
  refine g_istore_n X [1, 2, 3, 0] (ls1 := [(0, .ref (ad 0)), (1, iv x1), (2, iv x2), (3, iv (((w 8 x1.toNat) + x2) + (w 4 2)))]) dX3_clearsBridge_21 rfl (by decide) rfl ?_
  refine g_iload_n X 3 dX3_clearsBridge_22 rfl rfl ?_
  refine g_aload_n X 0 dX3_clearsBridge_23 rfl rfl ?_
  refine gf_X3_12 X dX3_clearsBridge_24 ?_
  refine gf_X3_54 X dX3_clearsBridge_27 ?_
  refine g_iconst X dX3_clearsBridge_30 ?_
  refine g_ialdC X 1 (n := 5) (c := 4) (by decide) (by decide) rfl (by decide) dX3_clearsBridge_31 ?_
  refine g_icmp_gt X h dX3_clearsBridge_32 (tgt := 39) (by decide) (fun h => ?_) (fun h => ?_)
  · refine g_iconst X dX3_clearsBridge_39 ?_
    exact g_zretC X Z h (by decide) dX3_clearsBridge_40
  · refine g_iconst X dX3_clearsBridge_35 ?_
    refine g_goto X (tgt := 40) dX3_clearsBridge_36 (by decide) ?_
    exact g_zretC X Z h (by decide) dX3_clearsBridge_40

/-! TallShips.hasWayIn -/
noncomputable def x_hasWayIn (x1 x2 x3 : Int) (w : Wd) : Option (Int × Wd) :=
  ((rv_levelAt x2 w).bind fun q5 =>
  ((x_canCross x1 q5.1 q5.2).bind fun q14 =>
  (if wr q14.1 = 0 then
    some (0, q14.2)
  else
    (if wr x3 = 0 then
      some (1, q14.2)
    else
      ((x_clearsBridge x1 q5.1 q14.2).bind fun q28 =>
      (if wr q28.1 = 0 then
        some (0, q28.2)
      else
        some (1, q28.2)))))))
theorem mc_x_hasWayIn {lc : Launch} {D : CX} {ad : Nat → Nat} {w : Wd} {x1 x2 x3 : Int} {v : Int × Wd} (h : x_hasWayIn x1 x2 x3 w = some v) : Mc lc yX3_hasWayIn cX3_hasWayIn 5 (some .boolean) rmX3_hasWayIn D LAY ad [.ref (ad 0), iv x1, iv x2, iv x3] w (some (iv v.1)) v.2 0 0 := by
  refine mc_of (by decide) (Nat.le_of_ble_eq_true rfl) ?_
  intro κ X Z
  show G κ D LAY ad 0 0 w 0 [(0, .ref (ad 0)), (1, iv x1), (2, iv x2), (3, iv x3)] []
  unfold x_hasWayIn at h
  refine g_aload_n X 0 dX3_hasWayIn_0 rfl rfl ?_
  refine gf_X3_12 X dX3_hasWayIn_1 ?_
  refine g_iload_n X 2 dX3_hasWayIn_4 rfl rfl ?_
  obtain ⟨q5, e5, h⟩ := bindE h
  refine g_callVi X (st := []) 1 [iv x2] (mc_rv_levelAt e5) cal_X2_levelAt rfl rfl wm_X3_202 (by decide) rfl rfl ⟨by decide, by decide⟩ rfl (Nat.le_of_ble_eq_true rfl) dX3_hasWayIn_5 ?_
  refine g_istore X [1, 2, 3, 4, 0] (ls1 := [(0, .ref (ad 0)), (1, iv x1), (2, iv x2), (3, iv x3), (4, iv q5.1)]) dX3_hasWayIn_8 (by decide) rfl ?_
  refine g_aload_n X 0 dX3_hasWayIn_10 rfl rfl ?_
  refine g_iload_n X 1 dX3_hasWayIn_11 rfl rfl ?_
  refine g_iload X 4 dX3_hasWayIn_12 rfl ?_
  obtain ⟨q14, e14, h⟩ := bindE h
  refine g_callVi X (st := []) 0 [iv x1, iv q5.1] (mc_x_canCross e14) cal_X3_canCross rfl rfl wm_X3_205 (by decide) rfl rfl ⟨by decide, by decide⟩ rfl (Nat.le_of_ble_eq_true rfl) dX3_hasWayIn_14 ?_
  refine g_if_eq X h dX3_hasWayIn_17 (tgt := 38) (by decide) (fun h => ?_) (fun h => ?_)
  · refine g_iconst X dX3_hasWayIn_38 ?_
    exact g_zretC X Z h (by decide) dX3_hasWayIn_39
  · refine g_iload_n X 3 dX3_hasWayIn_20 rfl rfl ?_
    refine g_if_eq X h dX3_hasWayIn_21 (tgt := 34) (by decide) (fun h => ?_) (fun h => ?_)
    · refine g_iconst X dX3_hasWayIn_34 ?_
      refine g_goto X (tgt := 39) dX3_hasWayIn_35 (by decide) ?_
      exact g_zretC X Z h (by decide) dX3_hasWayIn_39
    · refine g_aload_n X 0 dX3_hasWayIn_24 rfl rfl ?_
      refine g_iload_n X 1 dX3_hasWayIn_25 rfl rfl ?_
      refine g_iload X 4 dX3_hasWayIn_26 rfl ?_
      obtain ⟨q28, e28, h⟩ := bindE h
      refine g_callVi X (st := []) 0 [iv x1, iv q5.1] (mc_x_clearsBridge e28) cal_X3_clearsBridge rfl rfl wm_X3_208 (by decide) rfl rfl ⟨by decide, by decide⟩ rfl (Nat.le_of_ble_eq_true rfl) dX3_hasWayIn_28 ?_
      refine g_if_eq X h dX3_hasWayIn_31 (tgt := 38) (by decide) (fun h => ?_) (fun h => ?_)
      · refine g_iconst X dX3_hasWayIn_38 ?_
        exact g_zretC X Z h (by decide) dX3_hasWayIn_39
      · refine g_iconst X dX3_hasWayIn_34 ?_
        refine g_goto X (tgt := 39) dX3_hasWayIn_35 (by decide) ?_
        exact g_zretC X Z h (by decide) dX3_hasWayIn_39

/-! TallShips.firstWayIn -/
noncomputable def x_firstWayIn_3 (x1 x3 : Int) : Nat → Int → Wd → Option (Int × Wd)
  | 0, _, _ => none
  | n + 1, x4, w =>
    (if wr 120 ≤ wr x4 then
      some ((-1), w)
    else
      ((x_hasWayIn x1 x4 x3 w).bind fun q15 =>
      (if wr q15.1 = 0 then
        (x_firstWayIn_3 x1 x3 n (x4 + 1) q15.2)
      else
        some (x4, q15.2))))
theorem x_firstWayIn_3_ok {lc : Launch} {κ : KX} {D : CX} {ad : Nat → Nat} {x1 x3 : Int} {v : Int × Wd} (X : gX κ D cX3_firstWayIn RX3 rmX3_firstWayIn lc 5) (Z : gQ κ D LAY ad (some .int) (some (iv v.1)) v.2 0 0) : ∀ (n : Nat) (x4 : Int) (w : Wd), x_firstWayIn_3 x1 x3 n x4 w = some v → G κ D LAY ad 0 0 w 3 [(0, .ref (ad 0)), (1, iv x1), (3, iv x3), (4, iv x4)] [] := by
  intro n
  induction n with
  | zero =>
    intro x4 w h
    cases h
  | succ n ih =>
    intro x4 w h
    rw [x_firstWayIn_3] at h
    refine g_iload X 3 dX3_firstWayIn_3 rfl ?_
    refine g_bipush X 120 dX3_firstWayIn_5 (by decide) ?_
    refine g_icmp_ge X h dX3_firstWayIn_7 (tgt := 30) (by decide) (fun h => ?_) (fun h => ?_)
    · refine g_iconst X dX3_firstWayIn_30 ?_
      exact g_iret X Z h dX3_firstWayIn_31
    · refine g_aload_n X 0 dX3_firstWayIn_10 rfl rfl ?_
      refine g_iload_n X 1 dX3_firstWayIn_11 rfl rfl ?_
      refine g_iload X 3 dX3_firstWayIn_12 rfl ?_
      refine g_iload_n X 2 dX3_firstWayIn_14 rfl rfl ?_
      obtain ⟨q15, e15, h⟩ := bindE h
      refine g_callVi X (st := []) 0 [iv x1, iv x4, iv x3] (mc_x_hasWayIn e15) cal_X3_hasWayIn rfl rfl wm_X3_211 (by decide) rfl rfl ⟨by decide, by decide⟩ rfl (Nat.le_of_ble_eq_true rfl) dX3_firstWayIn_15 ?_
      refine g_if_eq X h dX3_firstWayIn_18 (tgt := 24) (by decide) (fun h => ?_) (fun h => ?_)
      · refine g_iinc X 3 [1, 2, 3, 0] (ls1 := [(0, .ref (ad 0)), (1, iv x1), (3, iv x3), (4, iv (x4 + 1))]) dX3_firstWayIn_24 rfl (by decide) rfl ?_
        refine g_goto X (tgt := 3) dX3_firstWayIn_27 (by decide) ?_
        exact ih (x4 + 1) q15.2 h
      · refine g_iload X 3 dX3_firstWayIn_21 rfl ?_
        exact g_iret X Z h dX3_firstWayIn_23
noncomputable def x_firstWayIn (x1 x2 x3 : Int) (w : Wd) : Option (Int × Wd) :=
  (x_firstWayIn_3 x1 x3 FU x2 w)
theorem mc_x_firstWayIn {lc : Launch} {D : CX} {ad : Nat → Nat} {w : Wd} {x1 x2 x3 : Int} {v : Int × Wd} (h : x_firstWayIn x1 x2 x3 w = some v) : Mc lc yX3_firstWayIn cX3_firstWayIn 5 (some .int) rmX3_firstWayIn D LAY ad [.ref (ad 0), iv x1, iv x2, iv x3] w (some (iv v.1)) v.2 0 0 := by
  refine mc_of (by decide) (Nat.le_of_ble_eq_true rfl) ?_
  intro κ X Z
  show G κ D LAY ad 0 0 w 0 [(0, .ref (ad 0)), (1, iv x1), (2, iv x2), (3, iv x3)] []
  unfold x_firstWayIn at h
  refine g_iload_n X 2 dX3_firstWayIn_0 rfl rfl ?_
  refine g_istore X [1, 2, 3, 4, 0] (ls1 := [(0, .ref (ad 0)), (1, iv x1), (2, iv x2), (3, iv x3), (4, iv x2)]) dX3_firstWayIn_1 (by decide) rfl ?_
  refine g_sub [0, 1, 3, 4] rfl ?_
  refine x_firstWayIn_3_ok X Z FU x2 w h

/-! TallShips.first -/
noncomputable def x_first (x1 x2 x3 : Int) (w : Wd) : Option (Int × Wd) :=
  ((fl_has x1 w).bind fun q5 =>
  (if wr q5.1 = 0 then
    some ((-1), q5.2)
  else
    ((x_isHour x2 q5.2).bind fun q12 =>
    (if wr q12.1 = 0 then
      some ((-1), q12.2)
    else
      ((x_within x3 0 1 q12.2).bind fun q21 =>
      (if wr q21.1 = 0 then
        some ((-1), q21.2)
      else
        (let j42 := fun (z42_0 : Int) => 
            ((x_firstWayIn x1 x2 z42_0 q21.2).bind fun q42 =>
            some (q42.1, q42.2))
        (if wr x3 = wr 1 then
          (j42 1)
        else
          (j42 0)))))))))
theorem mc_x_first {lc : Launch} {D : CX} {ad : Nat → Nat} {w : Wd} {x1 x2 x3 : Int} {v : Int × Wd} (h : x_first x1 x2 x3 w = some v) : Mc lc yX3_first cX3_first 4 (some .int) rmX3_first D LAY ad [.ref (ad 0), iv x1, iv x2, iv x3] w (some (iv v.1)) v.2 0 0 := by
  refine mc_of (by decide) (Nat.le_of_ble_eq_true rfl) ?_
  intro κ X Z
  show G κ D LAY ad 0 0 w 0 [(0, .ref (ad 0)), (1, iv x1), (2, iv x2), (3, iv x3)] []
  unfold x_first at h
  refine g_aload_n X 0 dX3_first_0 rfl rfl ?_
  refine gf_X3_19 X dX3_first_1 ?_
  refine g_iload_n X 1 dX3_first_4 rfl rfl ?_
  obtain ⟨q5, e5, h⟩ := bindE h
  refine g_callVi X (st := []) 5 [iv x1] (mc_fl_has e5) cal_X0_has rfl rfl wm_X3_108 (by decide) rfl rfl ⟨by decide, by decide⟩ rfl (Nat.le_of_ble_eq_true rfl) dX3_first_5 ?_
  refine g_if_eq X h dX3_first_8 (tgt := 27) (by decide) (fun h => ?_) (fun h => ?_)
  · refine g_iconst X dX3_first_27 ?_
    exact g_iret X Z h dX3_first_28
  · refine g_iload_n X 2 dX3_first_11 rfl rfl ?_
    obtain ⟨q12, e12, h⟩ := bindE h
    refine g_callSi X (st := []) [iv x2] (mc_x_isHour e12) cal_X3_isHour wm_X3_64 (by decide) rfl rfl ⟨by decide, by decide⟩ rfl (Nat.le_of_ble_eq_true rfl) dX3_first_12 ?_
    refine g_if_eq X h dX3_first_15 (tgt := 27) (by decide) (fun h => ?_) (fun h => ?_)
    · refine g_iconst X dX3_first_27 ?_
      exact g_iret X Z h dX3_first_28
    · refine g_iload_n X 3 dX3_first_18 rfl rfl ?_
      refine g_iconst X dX3_first_19 ?_
      refine g_iconst X dX3_first_20 ?_
      obtain ⟨q21, e21, h⟩ := bindE h
      refine g_callSi X (st := []) [iv x3, iv 0, iv 1] (mc_x_within e21) cal_X3_within wm_X3_44 (by decide) rfl rfl ⟨by decide, by decide⟩ rfl (Nat.le_of_ble_eq_true rfl) dX3_first_21 ?_
      refine g_if_ne X h dX3_first_24 (tgt := 29) (by decide) (fun h => ?_) (fun h => ?_)
      · refine g_aload_n X 0 dX3_first_29 rfl rfl ?_
        refine g_iload_n X 1 dX3_first_30 rfl rfl ?_
        refine g_iload_n X 2 dX3_first_31 rfl rfl ?_
        refine g_iload_n X 3 dX3_first_32 rfl rfl ?_
        refine g_iconst X dX3_first_33 ?_
        let j42 := fun (z42_0 : Int) => (((x_firstWayIn x1 x2 z42_0 q21.2).bind fun q42 =>
        some (q42.1, q42.2)))
        have J42 : ∀ (z42_0 : Int), (((x_firstWayIn x1 x2 z42_0 q21.2).bind fun q42 =>
        some (q42.1, q42.2))) = some v → G κ D LAY ad 0 0 q21.2 42 [] [iv z42_0, iv x2, iv x1, .ref (ad 0)] := by
          intro z42_0 h
          obtain ⟨q42, e42, h⟩ := bindE h
          refine g_callVi X (st := []) 0 [iv x1, iv x2, iv z42_0] (mc_x_firstWayIn e42) cal_X3_firstWayIn rfl rfl wm_X3_133 (by decide) rfl rfl ⟨by decide, by decide⟩ rfl (Nat.le_of_ble_eq_true rfl) dX3_first_42 ?_
          exact g_iret X Z h dX3_first_45
        refine g_icmp_ne X h dX3_first_34 (tgt := 41) (by decide) (fun h => ?_) (fun h => ?_)
        · refine g_iconst X dX3_first_41 ?_
          refine g_sub [] rfl ?_
          exact J42 0 h
        · refine g_iconst X dX3_first_37 ?_
          refine g_goto X (tgt := 42) dX3_first_38 (by decide) ?_
          refine g_sub [] rfl ?_
          exact J42 1 h
      · refine g_iconst X dX3_first_27 ?_
        exact g_iret X Z h dX3_first_28

/-! TallShips.isAfloat -/
noncomputable def x_isAfloat (x1 x2 : Int) (w : Wd) : Option (Int × Wd) :=
  (if 0 ≤ x1 ∧ x1 < 7 then
  (if 0 ≤ x2 ∧ x2 < 4 then
  ((rv_leastLevel w).bind fun q33 =>
  (if wr ((w 18 x2.toNat) + q33.1) < wr ((w 7 x1.toNat) + (w 4 2)) then
    some (0, q33.2)
  else
    some (1, q33.2)))
  else none)
  else none)
theorem mc_x_isAfloat {lc : Launch} {D : CX} {ad : Nat → Nat} {w : Wd} {x1 x2 : Int} {v : Int × Wd} (h : x_isAfloat x1 x2 w = some v) : Mc lc yX3_isAfloat cX3_isAfloat 4 (some .boolean) rmX3_isAfloat D LAY ad [.ref (ad 0), iv x1, iv x2] w (some (iv v.1)) v.2 0 0 := by
  refine mc_of (by decide) (Nat.le_of_ble_eq_true rfl) ?_
  intro κ X Z
  show G κ D LAY ad 0 0 w 0 [(0, .ref (ad 0)), (1, iv x1), (2, iv x2)] []
  unfold x_isAfloat at h
  refine g_aload_n X 0 dX3_isAfloat_0 rfl rfl ?_
  refine gf_X3_19 X dX3_isAfloat_1 ?_
  refine gf_X3_75 X dX3_isAfloat_4 ?_
  refine g_iload_n X 1 dX3_isAfloat_7 rfl rfl ?_
  refine g_iald X (n := 7) (c := 7) h rfl (by decide) dX3_isAfloat_8 (fun h => ?_)
  refine g_aload_n X 0 dX3_isAfloat_9 rfl rfl ?_
  refine gf_X3_12 X dX3_isAfloat_10 ?_
  refine gf_X3_54 X dX3_isAfloat_13 ?_
  refine g_iconst X dX3_isAfloat_16 ?_
  refine g_ialdC X 2 (n := 5) (c := 4) (by decide) (by decide) rfl (by decide) dX3_isAfloat_17 ?_
  refine g_iadd X dX3_isAfloat_18 ?_
  refine g_istore_n X [1, 2, 3, 0] (ls1 := [(0, .ref (ad 0)), (1, iv x1), (2, iv x2), (3, iv ((w 7 x1.toNat) + (w 4 2)))]) dX3_isAfloat_19 rfl (by decide) rfl ?_
  refine g_aload_n X 0 dX3_isAfloat_20 rfl rfl ?_
  refine gf_X3_26 X dX3_isAfloat_21 ?_
  refine gf_X3_95 X dX3_isAfloat_24 ?_
  refine g_iload_n X 2 dX3_isAfloat_27 rfl rfl ?_
  refine g_iald X (n := 4) (c := 18) h rfl (by decide) dX3_isAfloat_28 (fun h => ?_)
  refine g_aload_n X 0 dX3_isAfloat_29 rfl rfl ?_
  refine gf_X3_12 X dX3_isAfloat_30 ?_
  obtain ⟨q33, e33, h⟩ := bindE h
  refine g_callVi X (st := [iv (w 18 x2.toNat)]) 1 [] (mc_rv_leastLevel e33) cal_X2_leastLevel rfl rfl wm_X3_127 (by decide) rfl rfl ⟨by decide, by decide⟩ rfl (Nat.le_of_ble_eq_true rfl) dX3_isAfloat_33 ?_
  refine g_iadd X dX3_isAfloat_36 ?_
  refine g_iload_n X 3 dX3_isAfloat_37 rfl rfl ?_
  refine g_icmp_lt X h dX3_isAfloat_38 (tgt := 45) (by decide) (fun h => ?_) (fun h => ?_)
  · refine g_iconst X dX3_isAfloat_45 ?_
    exact g_zretC X Z h (by decide) dX3_isAfloat_46
  · refine g_iconst X dX3_isAfloat_41 ?_
    refine g_goto X (tgt := 46) dX3_isAfloat_42 (by decide) ?_
    exact g_zretC X Z h (by decide) dX3_isAfloat_46

/-! TallShips.hindrance -/
noncomputable def x_hindrance (x1 x2 : Int) (w : Wd) : Option (Int × Wd) :=
  ((x_isAfloat x1 x2 w).bind fun q3 =>
  (if wr q3.1 = 0 then
    some (1, q3.2)
  else
    (if 0 ≤ x1 ∧ x1 < 7 then
    (if 0 ≤ x2 ∧ x2 < 4 then
    ((x_firstWayIn x1 (q3.2 11 x1.toNat) (q3.2 19 x2.toNat) q3.2).bind fun q31 =>
    (if wr q31.1 = wr (-1) then
      some (2, q31.2)
    else
      some (0, q31.2)))
    else none)
    else none)))
theorem mc_x_hindrance {lc : Launch} {D : CX} {ad : Nat → Nat} {w : Wd} {x1 x2 : Int} {v : Int × Wd} (h : x_hindrance x1 x2 w = some v) : Mc lc yX3_hindrance cX3_hindrance 4 (some .int) rmX3_hindrance D LAY ad [.ref (ad 0), iv x1, iv x2] w (some (iv v.1)) v.2 0 0 := by
  refine mc_of (by decide) (Nat.le_of_ble_eq_true rfl) ?_
  intro κ X Z
  show G κ D LAY ad 0 0 w 0 [(0, .ref (ad 0)), (1, iv x1), (2, iv x2)] []
  unfold x_hindrance at h
  refine g_aload_n X 0 dX3_hindrance_0 rfl rfl ?_
  refine g_iload_n X 1 dX3_hindrance_1 rfl rfl ?_
  refine g_iload_n X 2 dX3_hindrance_2 rfl rfl ?_
  obtain ⟨q3, e3, h⟩ := bindE h
  refine g_callVi X (st := []) 0 [iv x1, iv x2] (mc_x_isAfloat e3) cal_X3_isAfloat rfl rfl wm_X3_215 (by decide) rfl rfl ⟨by decide, by decide⟩ rfl (Nat.le_of_ble_eq_true rfl) dX3_hindrance_3 ?_
  refine g_if_ne X h dX3_hindrance_6 (tgt := 11) (by decide) (fun h => ?_) (fun h => ?_)
  · refine g_aload_n X 0 dX3_hindrance_11 rfl rfl ?_
    refine g_iload_n X 1 dX3_hindrance_12 rfl rfl ?_
    refine g_aload_n X 0 dX3_hindrance_13 rfl rfl ?_
    refine gf_X3_19 X dX3_hindrance_14 ?_
    refine gf_X3_87 X dX3_hindrance_17 ?_
    refine g_iload_n X 1 dX3_hindrance_20 rfl rfl ?_
    refine g_iald X (n := 7) (c := 11) h rfl (by decide) dX3_hindrance_21 (fun h => ?_)
    refine g_aload_n X 0 dX3_hindrance_22 rfl rfl ?_
    refine gf_X3_26 X dX3_hindrance_23 ?_
    refine gf_X3_98 X dX3_hindrance_26 ?_
    refine g_iload_n X 2 dX3_hindrance_29 rfl rfl ?_
    refine g_zald X (n := 4) (c := 19) h rfl (by decide) dX3_hindrance_30 (fun h => ?_)
    obtain ⟨q31, e31, h⟩ := bindE h
    refine g_callVi X (st := []) 0 [iv x1, iv (q3.2 11 x1.toNat), iv (q3.2 19 x2.toNat)] (mc_x_firstWayIn e31) cal_X3_firstWayIn rfl rfl wm_X3_133 (by decide) rfl rfl ⟨by decide, by decide⟩ rfl (Nat.le_of_ble_eq_true rfl) dX3_hindrance_31 ?_
    refine g_istore_n X [1, 2, 3, 0] (ls1 := [(0, .ref (ad 0)), (1, iv x1), (2, iv x2), (3, iv q31.1)]) dX3_hindrance_34 rfl (by decide) rfl ?_
    refine g_iload_n X 3 dX3_hindrance_35 rfl rfl ?_
    refine g_iconst X dX3_hindrance_36 ?_
    refine g_icmp_ne X h dX3_hindrance_37 (tgt := 44) (by decide) (fun h => ?_) (fun h => ?_)
    · refine g_iconst X dX3_hindrance_44 ?_
      exact g_iret X Z h dX3_hindrance_45
    · refine g_iconst X dX3_hindrance_40 ?_
      refine g_goto X (tgt := 45) dX3_hindrance_41 (by decide) ?_
      exact g_iret X Z h dX3_hindrance_45
  · refine g_iconst X dX3_hindrance_9 ?_
    exact g_iret X Z h dX3_hindrance_10

/-! TallShips.may -/
noncomputable def x_may (x1 x2 : Int) (w : Wd) : Option (Int × Wd) :=
  ((fl_has x1 w).bind fun q5 =>
  (if wr q5.1 = 0 then
    some ((-1), q5.2)
  else
    ((qy_has x2 q5.2).bind fun q16 =>
    (if wr q16.1 = 0 then
      some ((-1), q16.2)
    else
      ((x_hindrance x1 x2 q16.2).bind fun q27 =>
      some (q27.1, q27.2))))))
theorem mc_x_may {lc : Launch} {D : CX} {ad : Nat → Nat} {w : Wd} {x1 x2 : Int} {v : Int × Wd} (h : x_may x1 x2 w = some v) : Mc lc yX3_may cX3_may 3 (some .int) rmX3_may D LAY ad [.ref (ad 0), iv x1, iv x2] w (some (iv v.1)) v.2 0 0 := by
  refine mc_of (by decide) (Nat.le_of_ble_eq_true rfl) ?_
  intro κ X Z
  show G κ D LAY ad 0 0 w 0 [(0, .ref (ad 0)), (1, iv x1), (2, iv x2)] []
  unfold x_may at h
  refine g_aload_n X 0 dX3_may_0 rfl rfl ?_
  refine gf_X3_19 X dX3_may_1 ?_
  refine g_iload_n X 1 dX3_may_4 rfl rfl ?_
  obtain ⟨q5, e5, h⟩ := bindE h
  refine g_callVi X (st := []) 5 [iv x1] (mc_fl_has e5) cal_X0_has rfl rfl wm_X3_108 (by decide) rfl rfl ⟨by decide, by decide⟩ rfl (Nat.le_of_ble_eq_true rfl) dX3_may_5 ?_
  refine g_if_eq X h dX3_may_8 (tgt := 22) (by decide) (fun h => ?_) (fun h => ?_)
  · refine g_iconst X dX3_may_22 ?_
    exact g_iret X Z h dX3_may_23
  · refine g_aload_n X 0 dX3_may_11 rfl rfl ?_
    refine gf_X3_26 X dX3_may_12 ?_
    refine g_iload_n X 2 dX3_may_15 rfl rfl ?_
    obtain ⟨q16, e16, h⟩ := bindE h
    refine g_callVi X (st := []) 16 [iv x2] (mc_qy_has e16) cal_X1_has rfl rfl wm_X3_137 (by decide) rfl rfl ⟨by decide, by decide⟩ rfl (Nat.le_of_ble_eq_true rfl) dX3_may_16 ?_
    refine g_if_ne X h dX3_may_19 (tgt := 24) (by decide) (fun h => ?_) (fun h => ?_)
    · refine g_aload_n X 0 dX3_may_24 rfl rfl ?_
      refine g_iload_n X 1 dX3_may_25 rfl rfl ?_
      refine g_iload_n X 2 dX3_may_26 rfl rfl ?_
      obtain ⟨q27, e27, h⟩ := bindE h
      refine g_callVi X (st := []) 0 [iv x1, iv x2] (mc_x_hindrance e27) cal_X3_hindrance rfl rfl wm_X3_138 (by decide) rfl rfl ⟨by decide, by decide⟩ rfl (Nat.le_of_ble_eq_true rfl) dX3_may_27 ?_
      exact g_iret X Z h dX3_may_30
    · refine g_iconst X dX3_may_22 ?_
      exact g_iret X Z h dX3_may_23

/-! TallShips.put -/
noncomputable def x_put (x1 x2 : Int) (w : Wd) : Option (Int × Wd) :=
  ((fl_has x1 w).bind fun q5 =>
  (if wr q5.1 = 0 then
    some (0, q5.2)
  else
    (let j29 := fun (w29 : Wd) => 
        (if 0 ≤ x1 ∧ x1 < 7 then
        some (1, (wset w29 14 x1.toNat x2))
        else none)
    (if wr x2 = wr (-1) then
      (j29 q5.2)
    else
      ((qy_has x2 q5.2).bind fun q21 =>
      (if wr q21.1 = 0 then
        some (0, q21.2)
      else
        (j29 q21.2)))))))
theorem mc_x_put {lc : Launch} {D : CX} {ad : Nat → Nat} {w : Wd} {x1 x2 : Int} {v : Int × Wd} (h : x_put x1 x2 w = some v) : Mc lc yX3_put cX3_put 3 (some .boolean) rmX3_put D LAY ad [.ref (ad 0), iv x1, iv x2] w (some (iv v.1)) v.2 0 0 := by
  refine mc_of (by decide) (Nat.le_of_ble_eq_true rfl) ?_
  intro κ X Z
  show G κ D LAY ad 0 0 w 0 [(0, .ref (ad 0)), (1, iv x1), (2, iv x2)] []
  unfold x_put at h
  refine g_aload_n X 0 dX3_put_0 rfl rfl ?_
  refine gf_X3_19 X dX3_put_1 ?_
  refine g_iload_n X 1 dX3_put_4 rfl rfl ?_
  obtain ⟨q5, e5, h⟩ := bindE h
  refine g_callVi X (st := []) 5 [iv x1] (mc_fl_has e5) cal_X0_has rfl rfl wm_X3_108 (by decide) rfl rfl ⟨by decide, by decide⟩ rfl (Nat.le_of_ble_eq_true rfl) dX3_put_5 ?_
  refine g_if_eq X h dX3_put_8 (tgt := 27) (by decide) (fun h => ?_) (fun h => ?_)
  · refine g_iconst X dX3_put_27 ?_
    exact g_zretC X Z h (by decide) dX3_put_28
  · refine g_iload_n X 2 dX3_put_11 rfl rfl ?_
    refine g_iconst X dX3_put_12 ?_
    let j29 := fun (w29 : Wd) => ((if 0 ≤ x1 ∧ x1 < 7 then
    some (1, (wset w29 14 x1.toNat x2))
    else none))
    have J29 : ∀ (w29 : Wd), ((if 0 ≤ x1 ∧ x1 < 7 then
    some (1, (wset w29 14 x1.toNat x2))
    else none)) = some v → G κ D LAY ad 0 0 w29 29 [(0, .ref (ad 0)), (1, iv x1), (2, iv x2)] [] := by
      intro w29 h
      refine g_aload_n X 0 dX3_put_29 rfl rfl ?_
      refine gf_X3_19 X dX3_put_30 ?_
      refine gf_X3_142 X dX3_put_33 ?_
      refine g_iload_n X 1 dX3_put_36 rfl rfl ?_
      refine g_iload_n X 2 dX3_put_37 rfl rfl ?_
      refine g_iast X (n := 7) (c := 14) h rfl (by decide) dX3_put_38 (fun h => ?_)
      refine g_iconst X dX3_put_39 ?_
      exact g_zretC X Z h (by decide) dX3_put_40
    refine g_icmp_eq X h dX3_put_13 (tgt := 29) (by decide) (fun h => ?_) (fun h => ?_)
    · exact J29 q5.2 h
    · refine g_aload_n X 0 dX3_put_16 rfl rfl ?_
      refine gf_X3_26 X dX3_put_17 ?_
      refine g_iload_n X 2 dX3_put_20 rfl rfl ?_
      obtain ⟨q21, e21, h⟩ := bindE h
      refine g_callVi X (st := []) 16 [iv x2] (mc_qy_has e21) cal_X1_has rfl rfl wm_X3_137 (by decide) rfl rfl ⟨by decide, by decide⟩ rfl (Nat.le_of_ble_eq_true rfl) dX3_put_21 ?_
      refine g_if_ne X h dX3_put_24 (tgt := 29) (by decide) (fun h => ?_) (fun h => ?_)
      · exact J29 q21.2 h
      · refine g_iconst X dX3_put_27 ?_
        exact g_zretC X Z h (by decide) dX3_put_28

/-! TallShips.firstFouling -/
noncomputable def x_firstFouling_2 : Nat → Int → Wd → Option (Int × Wd)
  | 0, _, _ => none
  | n + 1, x1, w =>
    (if wr (w 5 0) ≤ wr x1 then
      some ((-1), w)
    else
      (if 0 ≤ x1 ∧ x1 < 7 then
      ((qy_has (w 14 x1.toNat) w).bind fun q28 =>
      (if wr q28.1 = 0 then
        (x_firstFouling_2 n (x1 + 1) q28.2)
      else
        (if 0 ≤ x1 ∧ x1 < 7 then
        ((fl_berthedAt (w 14 x1.toNat) q28.2).bind fun q48 =>
        (if wr (band (q28.2 13 x1.toNat) q48.1) = 0 then
          (x_firstFouling_2 n (x1 + 1) q48.2)
        else
          some (x1, q48.2)))
        else none)))
      else none))
theorem x_firstFouling_2_ok {lc : Launch} {κ : KX} {D : CX} {ad : Nat → Nat} {v : Int × Wd} (X : gX κ D cX3_firstFouling RX3 rmX3_firstFouling lc 3) (Z : gQ κ D LAY ad (some .int) (some (iv v.1)) v.2 0 0) : ∀ (n : Nat) (x1 : Int) (w : Wd), x_firstFouling_2 n x1 w = some v → G κ D LAY ad 0 0 w 2 [(0, .ref (ad 0)), (1, iv x1)] [] := by
  intro n
  induction n with
  | zero =>
    intro x1 w h
    cases h
  | succ n ih =>
    intro x1 w h
    rw [x_firstFouling_2] at h
    refine g_iload_n X 1 dX3_firstFouling_2 rfl rfl ?_
    refine g_aload_n X 0 dX3_firstFouling_3 rfl rfl ?_
    refine gf_X3_19 X dX3_firstFouling_4 ?_
    refine gf_X3_68 X dX3_firstFouling_7 ?_
    refine g_icmp_ge X h dX3_firstFouling_10 (tgt := 63) (by decide) (fun h => ?_) (fun h => ?_)
    · refine g_iconst X dX3_firstFouling_63 ?_
      exact g_iret X Z h dX3_firstFouling_64
    · refine g_aload_n X 0 dX3_firstFouling_13 rfl rfl ?_
      refine gf_X3_19 X dX3_firstFouling_14 ?_
      refine gf_X3_142 X dX3_firstFouling_17 ?_
      refine g_iload_n X 1 dX3_firstFouling_20 rfl rfl ?_
      refine g_iald X (n := 7) (c := 14) h rfl (by decide) dX3_firstFouling_21 (fun h => ?_)
      refine g_istore_n X [1, 2, 0] (ls1 := [(0, .ref (ad 0)), (1, iv x1), (2, iv (w 14 x1.toNat))]) dX3_firstFouling_22 rfl (by decide) rfl ?_
      refine g_aload_n X 0 dX3_firstFouling_23 rfl rfl ?_
      refine gf_X3_26 X dX3_firstFouling_24 ?_
      refine g_iload_n X 2 dX3_firstFouling_27 rfl rfl ?_
      obtain ⟨q28, e28, h⟩ := bindE h
      refine g_callVi X (st := []) 16 [iv (w 14 x1.toNat)] (mc_qy_has e28) cal_X1_has rfl rfl wm_X3_137 (by decide) rfl rfl ⟨by decide, by decide⟩ rfl (Nat.le_of_ble_eq_true rfl) dX3_firstFouling_28 ?_
      refine g_if_eq X h dX3_firstFouling_31 (tgt := 57) (by decide) (fun h => ?_) (fun h => ?_)
      · refine g_iinc X 1 [1, 0, 2] (ls1 := [(0, .ref (ad 0)), (1, iv (x1 + 1)), (2, iv (w 14 x1.toNat))]) dX3_firstFouling_57 rfl (by decide) rfl ?_
        refine g_goto X (tgt := 2) dX3_firstFouling_60 (by decide) ?_
        refine g_sub [0, 1] rfl ?_
        exact ih (x1 + 1) q28.2 h
      · refine g_aload_n X 0 dX3_firstFouling_34 rfl rfl ?_
        refine gf_X3_19 X dX3_firstFouling_35 ?_
        refine gf_X3_111 X dX3_firstFouling_38 ?_
        refine g_iload_n X 1 dX3_firstFouling_41 rfl rfl ?_
        refine g_iald X (n := 7) (c := 13) h rfl (by decide) dX3_firstFouling_42 (fun h => ?_)
        refine g_aload_n X 0 dX3_firstFouling_43 rfl rfl ?_
        refine gf_X3_19 X dX3_firstFouling_44 ?_
        refine g_iload_n X 2 dX3_firstFouling_47 rfl rfl ?_
        obtain ⟨q48, e48, h⟩ := bindE h
        refine g_callVi X (st := [iv (q28.2 13 x1.toNat)]) 5 [iv (w 14 x1.toNat)] (mc_fl_berthedAt e48) cal_X0_berthedAt rfl rfl wm_X3_224 (by decide) rfl rfl ⟨by decide, by decide⟩ rfl (Nat.le_of_ble_eq_true rfl) dX3_firstFouling_48 ?_
        refine g_iand X dX3_firstFouling_51 ?_
        refine g_if_eq X h dX3_firstFouling_52 (tgt := 57) (by decide) (fun h => ?_) (fun h => ?_)
        · refine g_iinc X 1 [1, 0, 2] (ls1 := [(0, .ref (ad 0)), (1, iv (x1 + 1)), (2, iv (w 14 x1.toNat))]) dX3_firstFouling_57 rfl (by decide) rfl ?_
          refine g_goto X (tgt := 2) dX3_firstFouling_60 (by decide) ?_
          refine g_sub [0, 1] rfl ?_
          exact ih (x1 + 1) q48.2 h
        · refine g_iload_n X 1 dX3_firstFouling_55 rfl rfl ?_
          exact g_iret X Z h dX3_firstFouling_56
noncomputable def x_firstFouling (w : Wd) : Option (Int × Wd) :=
  (x_firstFouling_2 FU 0 w)
theorem mc_x_firstFouling {lc : Launch} {D : CX} {ad : Nat → Nat} {w : Wd} {v : Int × Wd} (h : x_firstFouling w = some v) : Mc lc yX3_firstFouling cX3_firstFouling 3 (some .int) rmX3_firstFouling D LAY ad [.ref (ad 0)] w (some (iv v.1)) v.2 0 0 := by
  refine mc_of (by decide) (Nat.le_of_ble_eq_true rfl) ?_
  intro κ X Z
  show G κ D LAY ad 0 0 w 0 [(0, .ref (ad 0))] []
  unfold x_firstFouling at h
  refine g_iconst X dX3_firstFouling_0 ?_
  refine g_istore_n X [1, 0] (ls1 := [(0, .ref (ad 0)), (1, iv 0)]) dX3_firstFouling_1 rfl (by decide) rfl ?_
  refine x_firstFouling_2_ok X Z FU 0 w h

/-! TallShips.firstMisplaced -/
noncomputable def x_firstMisplaced_2 : Nat → Int → Wd → Option (Int × Wd)
  | 0, _, _ => none
  | n + 1, x1, w =>
    (if wr (w 5 0) ≤ wr x1 then
      some ((-1), w)
    else
      (if 0 ≤ x1 ∧ x1 < 7 then
      ((qy_has (w 14 x1.toNat) w).bind fun q28 =>
      (if wr q28.1 = 0 then
        (x_firstMisplaced_2 n (x1 + 1) q28.2)
      else
        ((x_hindrance x1 (w 14 x1.toNat) q28.2).bind fun q37 =>
        (if wr q37.1 = 0 then
          (x_firstMisplaced_2 n (x1 + 1) q37.2)
        else
          some (x1, q37.2)))))
      else none))
theorem x_firstMisplaced_2_ok {lc : Launch} {κ : KX} {D : CX} {ad : Nat → Nat} {v : Int × Wd} (X : gX κ D cX3_firstMisplaced RX3 rmX3_firstMisplaced lc 3) (Z : gQ κ D LAY ad (some .int) (some (iv v.1)) v.2 0 0) : ∀ (n : Nat) (x1 : Int) (w : Wd), x_firstMisplaced_2 n x1 w = some v → G κ D LAY ad 0 0 w 2 [(0, .ref (ad 0)), (1, iv x1)] [] := by
  intro n
  induction n with
  | zero =>
    intro x1 w h
    cases h
  | succ n ih =>
    intro x1 w h
    rw [x_firstMisplaced_2] at h
    refine g_iload_n X 1 dX3_firstMisplaced_2 rfl rfl ?_
    refine g_aload_n X 0 dX3_firstMisplaced_3 rfl rfl ?_
    refine gf_X3_19 X dX3_firstMisplaced_4 ?_
    refine gf_X3_68 X dX3_firstMisplaced_7 ?_
    refine g_icmp_ge X h dX3_firstMisplaced_10 (tgt := 51) (by decide) (fun h => ?_) (fun h => ?_)
    · refine g_iconst X dX3_firstMisplaced_51 ?_
      exact g_iret X Z h dX3_firstMisplaced_52
    · refine g_aload_n X 0 dX3_firstMisplaced_13 rfl rfl ?_
      refine gf_X3_19 X dX3_firstMisplaced_14 ?_
      refine gf_X3_142 X dX3_firstMisplaced_17 ?_
      refine g_iload_n X 1 dX3_firstMisplaced_20 rfl rfl ?_
      refine g_iald X (n := 7) (c := 14) h rfl (by decide) dX3_firstMisplaced_21 (fun h => ?_)
      refine g_istore_n X [1, 2, 0] (ls1 := [(0, .ref (ad 0)), (1, iv x1), (2, iv (w 14 x1.toNat))]) dX3_firstMisplaced_22 rfl (by decide) rfl ?_
      refine g_aload_n X 0 dX3_firstMisplaced_23 rfl rfl ?_
      refine gf_X3_26 X dX3_firstMisplaced_24 ?_
      refine g_iload_n X 2 dX3_firstMisplaced_27 rfl rfl ?_
      obtain ⟨q28, e28, h⟩ := bindE h
      refine g_callVi X (st := []) 16 [iv (w 14 x1.toNat)] (mc_qy_has e28) cal_X1_has rfl rfl wm_X3_137 (by decide) rfl rfl ⟨by decide, by decide⟩ rfl (Nat.le_of_ble_eq_true rfl) dX3_firstMisplaced_28 ?_
      refine g_if_eq X h dX3_firstMisplaced_31 (tgt := 45) (by decide) (fun h => ?_) (fun h => ?_)
      · refine g_iinc X 1 [1, 0, 2] (ls1 := [(0, .ref (ad 0)), (1, iv (x1 + 1)), (2, iv (w 14 x1.toNat))]) dX3_firstMisplaced_45 rfl (by decide) rfl ?_
        refine g_goto X (tgt := 2) dX3_firstMisplaced_48 (by decide) ?_
        refine g_sub [0, 1] rfl ?_
        exact ih (x1 + 1) q28.2 h
      · refine g_aload_n X 0 dX3_firstMisplaced_34 rfl rfl ?_
        refine g_iload_n X 1 dX3_firstMisplaced_35 rfl rfl ?_
        refine g_iload_n X 2 dX3_firstMisplaced_36 rfl rfl ?_
        obtain ⟨q37, e37, h⟩ := bindE h
        refine g_callVi X (st := []) 0 [iv x1, iv (w 14 x1.toNat)] (mc_x_hindrance e37) cal_X3_hindrance rfl rfl wm_X3_138 (by decide) rfl rfl ⟨by decide, by decide⟩ rfl (Nat.le_of_ble_eq_true rfl) dX3_firstMisplaced_37 ?_
        refine g_if_eq X h dX3_firstMisplaced_40 (tgt := 45) (by decide) (fun h => ?_) (fun h => ?_)
        · refine g_iinc X 1 [1, 0, 2] (ls1 := [(0, .ref (ad 0)), (1, iv (x1 + 1)), (2, iv (w 14 x1.toNat))]) dX3_firstMisplaced_45 rfl (by decide) rfl ?_
          refine g_goto X (tgt := 2) dX3_firstMisplaced_48 (by decide) ?_
          refine g_sub [0, 1] rfl ?_
          exact ih (x1 + 1) q37.2 h
        · refine g_iload_n X 1 dX3_firstMisplaced_43 rfl rfl ?_
          exact g_iret X Z h dX3_firstMisplaced_44
noncomputable def x_firstMisplaced (w : Wd) : Option (Int × Wd) :=
  (x_firstMisplaced_2 FU 0 w)
theorem mc_x_firstMisplaced {lc : Launch} {D : CX} {ad : Nat → Nat} {w : Wd} {v : Int × Wd} (h : x_firstMisplaced w = some v) : Mc lc yX3_firstMisplaced cX3_firstMisplaced 3 (some .int) rmX3_firstMisplaced D LAY ad [.ref (ad 0)] w (some (iv v.1)) v.2 0 0 := by
  refine mc_of (by decide) (Nat.le_of_ble_eq_true rfl) ?_
  intro κ X Z
  show G κ D LAY ad 0 0 w 0 [(0, .ref (ad 0))] []
  unfold x_firstMisplaced at h
  refine g_iconst X dX3_firstMisplaced_0 ?_
  refine g_istore_n X [1, 0] (ls1 := [(0, .ref (ad 0)), (1, iv 0)]) dX3_firstMisplaced_1 rfl (by decide) rfl ?_
  refine x_firstMisplaced_2_ok X Z FU 0 w h

/-! TallShips.roomLeft -/
noncomputable def x_roomLeft_15 (x1 : Int) : Nat → Int → Int → Int → Wd → Option (Int × Wd)
  | 0, _, _, _, _ => none
  | n + 1, x2, x3, x4, w =>
    (if wr (w 5 0) ≤ wr x4 then
      some (x2, w)
    else
      (if 0 ≤ x4 ∧ x4 < 7 then
      (if wr (w 14 x4.toNat) = wr x1 then
        (if 0 ≤ x4 ∧ x4 < 7 then
        (let j69 := fun (z69_0 : Int) => 
            (x_roomLeft_15 x1 n (x2 - ((w 6 x4.toNat) + z69_0)) (x3 + 1) (x4 + 1) w)
        (if wr x3 ≤ 0 then
          (j69 0)
        else
          (j69 (w 4 3))))
        else none)
      else
        (x_roomLeft_15 x1 n x2 x3 (x4 + 1) w))
      else none))
theorem x_roomLeft_15_ok {lc : Launch} {κ : KX} {D : CX} {ad : Nat → Nat} {x1 : Int} {v : Int × Wd} (X : gX κ D cX3_roomLeft RX3 rmX3_roomLeft lc 5) (Z : gQ κ D LAY ad (some .int) (some (iv v.1)) v.2 0 0) : ∀ (n : Nat) (x2 : Int) (x3 : Int) (x4 : Int) (w : Wd), x_roomLeft_15 x1 n x2 x3 x4 w = some v → G κ D LAY ad 0 0 w 15 [(0, .ref (ad 0)), (1, iv x1), (2, iv x2), (3, iv x3), (4, iv x4)] [] := by
  intro n
  induction n with
  | zero =>
    intro x2 x3 x4 w h
    cases h
  | succ n ih =>
    intro x2 x3 x4 w h
    rw [x_roomLeft_15] at h
    refine g_iload X 4 dX3_roomLeft_15 rfl ?_
    refine g_aload_n X 0 dX3_roomLeft_17 rfl rfl ?_
    refine gf_X3_19 X dX3_roomLeft_18 ?_
    refine gf_X3_68 X dX3_roomLeft_21 ?_
    refine g_icmp_ge X h dX3_roomLeft_24 (tgt := 81) (by decide) (fun h => ?_) (fun h => ?_)
    · refine g_iload_n X 2 dX3_roomLeft_81 rfl rfl ?_
      exact g_iret X Z h dX3_roomLeft_82
    · refine g_aload_n X 0 dX3_roomLeft_27 rfl rfl ?_
      refine gf_X3_19 X dX3_roomLeft_28 ?_
      refine gf_X3_142 X dX3_roomLeft_31 ?_
      refine g_iload X 4 dX3_roomLeft_34 rfl ?_
      refine g_iald X (n := 7) (c := 14) h rfl (by decide) dX3_roomLeft_36 (fun h => ?_)
      refine g_iload_n X 1 dX3_roomLeft_37 rfl rfl ?_
      refine g_icmp_ne X h dX3_roomLeft_38 (tgt := 75) (by decide) (fun h => ?_) (fun h => ?_)
      · refine g_iinc X 4 [1, 2, 3, 4, 0] (ls1 := [(0, .ref (ad 0)), (1, iv x1), (2, iv x2), (3, iv x3), (4, iv (x4 + 1))]) dX3_roomLeft_75 rfl (by decide) rfl ?_
        refine g_goto X (tgt := 15) dX3_roomLeft_78 (by decide) ?_
        exact ih x2 x3 (x4 + 1) w h
      · refine g_iload_n X 2 dX3_roomLeft_41 rfl rfl ?_
        refine g_aload_n X 0 dX3_roomLeft_42 rfl rfl ?_
        refine gf_X3_19 X dX3_roomLeft_43 ?_
        refine gf_X3_72 X dX3_roomLeft_46 ?_
        refine g_iload X 4 dX3_roomLeft_49 rfl ?_
        refine g_iald X (n := 7) (c := 6) h rfl (by decide) dX3_roomLeft_51 (fun h => ?_)
        refine g_iload_n X 3 dX3_roomLeft_52 rfl rfl ?_
        let j69 := fun (z69_0 : Int) => ((x_roomLeft_15 x1 n (x2 - ((w 6 x4.toNat) + z69_0)) (x3 + 1) (x4 + 1) w))
        have J69 : ∀ (z69_0 : Int), ((x_roomLeft_15 x1 n (x2 - ((w 6 x4.toNat) + z69_0)) (x3 + 1) (x4 + 1) w)) = some v → G κ D LAY ad 0 0 w 69 [(0, .ref (ad 0)), (1, iv x1), (3, iv x3), (4, iv x4)] [iv z69_0, iv (w 6 x4.toNat), iv x2] := by
          intro z69_0 h
          refine g_iadd X dX3_roomLeft_69 ?_
          refine g_isub X dX3_roomLeft_70 ?_
          refine g_istore_n X [1, 2, 0, 3, 4] (ls1 := [(0, .ref (ad 0)), (1, iv x1), (2, iv (x2 - ((w 6 x4.toNat) + z69_0))), (3, iv x3), (4, iv x4)]) dX3_roomLeft_71 rfl (by decide) rfl ?_
          refine g_iinc X 3 [1, 2, 3, 0, 4] (ls1 := [(0, .ref (ad 0)), (1, iv x1), (2, iv (x2 - ((w 6 x4.toNat) + z69_0))), (3, iv (x3 + 1)), (4, iv x4)]) dX3_roomLeft_72 rfl (by decide) rfl ?_
          refine g_iinc X 4 [1, 2, 3, 4, 0] (ls1 := [(0, .ref (ad 0)), (1, iv x1), (2, iv (x2 - ((w 6 x4.toNat) + z69_0))), (3, iv (x3 + 1)), (4, iv (x4 + 1))]) dX3_roomLeft_75 rfl (by decide) rfl ?_
          refine g_goto X (tgt := 15) dX3_roomLeft_78 (by decide) ?_
          exact ih (x2 - ((w 6 x4.toNat) + z69_0)) (x3 + 1) (x4 + 1) w h
        refine g_if_le X h dX3_roomLeft_53 (tgt := 68) (by decide) (fun h => ?_) (fun h => ?_)
        · refine g_iconst X dX3_roomLeft_68 ?_
          refine g_sub [0, 1, 3, 4] rfl ?_
          exact J69 0 h
        · refine g_aload_n X 0 dX3_roomLeft_56 rfl rfl ?_
          refine gf_X3_12 X dX3_roomLeft_57 ?_
          refine gf_X3_54 X dX3_roomLeft_60 ?_
          refine g_iconst X dX3_roomLeft_63 ?_
          refine g_ialdC X 3 (n := 5) (c := 4) (by decide) (by decide) rfl (by decide) dX3_roomLeft_64 ?_
          refine g_goto X (tgt := 69) dX3_roomLeft_65 (by decide) ?_
          refine g_sub [0, 1, 3, 4] rfl ?_
          exact J69 (w 4 3) h
noncomputable def x_roomLeft (x1 : Int) (w : Wd) : Option (Int × Wd) :=
  (if 0 ≤ x1 ∧ x1 < 4 then
  (x_roomLeft_15 x1 FU (w 17 x1.toNat) 0 0 w)
  else none)
theorem mc_x_roomLeft {lc : Launch} {D : CX} {ad : Nat → Nat} {w : Wd} {x1 : Int} {v : Int × Wd} (h : x_roomLeft x1 w = some v) : Mc lc yX3_roomLeft cX3_roomLeft 5 (some .int) rmX3_roomLeft D LAY ad [.ref (ad 0), iv x1] w (some (iv v.1)) v.2 0 0 := by
  refine mc_of (by decide) (Nat.le_of_ble_eq_true rfl) ?_
  intro κ X Z
  show G κ D LAY ad 0 0 w 0 [(0, .ref (ad 0)), (1, iv x1)] []
  unfold x_roomLeft at h
  refine g_aload_n X 0 dX3_roomLeft_0 rfl rfl ?_
  refine gf_X3_26 X dX3_roomLeft_1 ?_
  refine gf_X3_94 X dX3_roomLeft_4 ?_
  refine g_iload_n X 1 dX3_roomLeft_7 rfl rfl ?_
  refine g_iald X (n := 4) (c := 17) h rfl (by decide) dX3_roomLeft_8 (fun h => ?_)
  refine g_istore_n X [1, 2, 0] (ls1 := [(0, .ref (ad 0)), (1, iv x1), (2, iv (w 17 x1.toNat))]) dX3_roomLeft_9 rfl (by decide) rfl ?_
  refine g_iconst X dX3_roomLeft_10 ?_
  refine g_istore_n X [1, 2, 3, 0] (ls1 := [(0, .ref (ad 0)), (1, iv x1), (2, iv (w 17 x1.toNat)), (3, iv 0)]) dX3_roomLeft_11 rfl (by decide) rfl ?_
  refine g_iconst X dX3_roomLeft_12 ?_
  refine g_istore X [1, 2, 3, 4, 0] (ls1 := [(0, .ref (ad 0)), (1, iv x1), (2, iv (w 17 x1.toNat)), (3, iv 0), (4, iv 0)]) dX3_roomLeft_13 (by decide) rfl ?_
  refine x_roomLeft_15_ok X Z FU (w 17 x1.toNat) 0 0 w h

/-! TallShips.firstTooShort -/
noncomputable def x_firstTooShort_2 : Nat → Int → Wd → Option (Int × Wd)
  | 0, _, _ => none
  | n + 1, x1, w =>
    (if wr (w 16 0) ≤ wr x1 then
      some ((-1), w)
    else
      ((x_roomLeft x1 w).bind fun q15 =>
      (if 0 ≤ wr q15.1 then
        (x_firstTooShort_2 n (x1 + 1) q15.2)
      else
        some (x1, q15.2))))
theorem x_firstTooShort_2_ok {lc : Launch} {κ : KX} {D : CX} {ad : Nat → Nat} {v : Int × Wd} (X : gX κ D cX3_firstTooShort RX3 rmX3_firstTooShort lc 2) (Z : gQ κ D LAY ad (some .int) (some (iv v.1)) v.2 0 0) : ∀ (n : Nat) (x1 : Int) (w : Wd), x_firstTooShort_2 n x1 w = some v → G κ D LAY ad 0 0 w 2 [(0, .ref (ad 0)), (1, iv x1)] [] := by
  intro n
  induction n with
  | zero =>
    intro x1 w h
    cases h
  | succ n ih =>
    intro x1 w h
    rw [x_firstTooShort_2] at h
    refine g_iload_n X 1 dX3_firstTooShort_2 rfl rfl ?_
    refine g_aload_n X 0 dX3_firstTooShort_3 rfl rfl ?_
    refine gf_X3_26 X dX3_firstTooShort_4 ?_
    refine gf_X3_93 X dX3_firstTooShort_7 ?_
    refine g_icmp_ge X h dX3_firstTooShort_10 (tgt := 29) (by decide) (fun h => ?_) (fun h => ?_)
    · refine g_iconst X dX3_firstTooShort_29 ?_
      exact g_iret X Z h dX3_firstTooShort_30
    · refine g_aload_n X 0 dX3_firstTooShort_13 rfl rfl ?_
      refine g_iload_n X 1 dX3_firstTooShort_14 rfl rfl ?_
      obtain ⟨q15, e15, h⟩ := bindE h
      refine g_callVi X (st := []) 0 [iv x1] (mc_x_roomLeft e15) cal_X3_roomLeft rfl rfl wm_X3_169 (by decide) rfl rfl ⟨by decide, by decide⟩ rfl (Nat.le_of_ble_eq_true rfl) dX3_firstTooShort_15 ?_
      refine g_if_ge X h dX3_firstTooShort_18 (tgt := 23) (by decide) (fun h => ?_) (fun h => ?_)
      · refine g_iinc X 1 [1, 0] (ls1 := [(0, .ref (ad 0)), (1, iv (x1 + 1))]) dX3_firstTooShort_23 rfl (by decide) rfl ?_
        refine g_goto X (tgt := 2) dX3_firstTooShort_26 (by decide) ?_
        exact ih (x1 + 1) q15.2 h
      · refine g_iload_n X 1 dX3_firstTooShort_21 rfl rfl ?_
        exact g_iret X Z h dX3_firstTooShort_22
noncomputable def x_firstTooShort (w : Wd) : Option (Int × Wd) :=
  (x_firstTooShort_2 FU 0 w)
theorem mc_x_firstTooShort {lc : Launch} {D : CX} {ad : Nat → Nat} {w : Wd} {v : Int × Wd} (h : x_firstTooShort w = some v) : Mc lc yX3_firstTooShort cX3_firstTooShort 2 (some .int) rmX3_firstTooShort D LAY ad [.ref (ad 0)] w (some (iv v.1)) v.2 0 0 := by
  refine mc_of (by decide) (Nat.le_of_ble_eq_true rfl) ?_
  intro κ X Z
  show G κ D LAY ad 0 0 w 0 [(0, .ref (ad 0))] []
  unfold x_firstTooShort at h
  refine g_iconst X dX3_firstTooShort_0 ?_
  refine g_istore_n X [1, 0] (ls1 := [(0, .ref (ad 0)), (1, iv 0)]) dX3_firstTooShort_1 rfl (by decide) rfl ?_
  refine x_firstTooShort_2_ok X Z FU 0 w h

/-! TallShips.wrong -/
noncomputable def x_wrong (w : Wd) : Option (Int × Wd) :=
  ((x_firstMisplaced w).bind fun q1 =>
  (if wr q1.1 = wr (-1) then
    ((x_firstFouling q1.2).bind fun q16 =>
    (if wr q16.1 = wr (-1) then
      ((x_firstTooShort q16.2).bind fun q31 =>
      (if wr q31.1 = wr (-1) then
        some (0, q31.2)
      else
        some ((30 + q31.1), q31.2)))
    else
      some ((20 + q16.1), q16.2)))
  else
    some ((10 + q1.1), q1.2)))
theorem mc_x_wrong {lc : Launch} {D : CX} {ad : Nat → Nat} {w : Wd} {v : Int × Wd} (h : x_wrong w = some v) : Mc lc yX3_wrong cX3_wrong 4 (some .int) rmX3_wrong D LAY ad [.ref (ad 0)] w (some (iv v.1)) v.2 0 0 := by
  refine mc_of (by decide) (Nat.le_of_ble_eq_true rfl) ?_
  intro κ X Z
  show G κ D LAY ad 0 0 w 0 [(0, .ref (ad 0))] []
  unfold x_wrong at h
  refine g_aload_n X 0 dX3_wrong_0 rfl rfl ?_
  obtain ⟨q1, e1, h⟩ := bindE h
  refine g_callVi X (st := []) 0 [] (mc_x_firstMisplaced e1) cal_X3_firstMisplaced rfl rfl wm_X3_152 (by decide) rfl rfl ⟨by decide, by decide⟩ rfl (Nat.le_of_ble_eq_true rfl) dX3_wrong_1 ?_
  refine g_istore_n X [1, 0] (ls1 := [(0, .ref (ad 0)), (1, iv q1.1)]) dX3_wrong_4 rfl (by decide) rfl ?_
  refine g_iload_n X 1 dX3_wrong_5 rfl rfl ?_
  refine g_iconst X dX3_wrong_6 ?_
  refine g_icmp_eq X h dX3_wrong_7 (tgt := 15) (by decide) (fun h => ?_) (fun h => ?_)
  · refine g_aload_n X 0 dX3_wrong_15 rfl rfl ?_
    obtain ⟨q16, e16, h⟩ := bindE h
    refine g_callVi X (st := []) 0 [] (mc_x_firstFouling e16) cal_X3_firstFouling rfl rfl wm_X3_155 (by decide) rfl rfl ⟨by decide, by decide⟩ rfl (Nat.le_of_ble_eq_true rfl) dX3_wrong_16 ?_
    refine g_istore_n X [1, 2, 0] (ls1 := [(0, .ref (ad 0)), (1, iv q1.1), (2, iv q16.1)]) dX3_wrong_19 rfl (by decide) rfl ?_
    refine g_iload_n X 2 dX3_wrong_20 rfl rfl ?_
    refine g_iconst X dX3_wrong_21 ?_
    refine g_icmp_eq X h dX3_wrong_22 (tgt := 30) (by decide) (fun h => ?_) (fun h => ?_)
    · refine g_aload_n X 0 dX3_wrong_30 rfl rfl ?_
      obtain ⟨q31, e31, h⟩ := bindE h
      refine g_callVi X (st := []) 0 [] (mc_x_firstTooShort e31) cal_X3_firstTooShort rfl rfl wm_X3_158 (by decide) rfl rfl ⟨by decide, by decide⟩ rfl (Nat.le_of_ble_eq_true rfl) dX3_wrong_31 ?_
      refine g_istore_n X [1, 2, 3, 0] (ls1 := [(0, .ref (ad 0)), (1, iv q1.1), (2, iv q16.1), (3, iv q31.1)]) dX3_wrong_34 rfl (by decide) rfl ?_
      refine g_iload_n X 3 dX3_wrong_35 rfl rfl ?_
      refine g_iconst X dX3_wrong_36 ?_
      refine g_icmp_ne X h dX3_wrong_37 (tgt := 44) (by decide) (fun h => ?_) (fun h => ?_)
      · refine g_bipush X 30 dX3_wrong_44 (by decide) ?_
        refine g_iload_n X 3 dX3_wrong_46 rfl rfl ?_
        refine g_iadd X dX3_wrong_47 ?_
        exact g_iret X Z h dX3_wrong_48
      · refine g_iconst X dX3_wrong_40 ?_
        refine g_goto X (tgt := 48) dX3_wrong_41 (by decide) ?_
        exact g_iret X Z h dX3_wrong_48
    · refine g_bipush X 20 dX3_wrong_25 (by decide) ?_
      refine g_iload_n X 2 dX3_wrong_27 rfl rfl ?_
      refine g_iadd X dX3_wrong_28 ?_
      exact g_iret X Z h dX3_wrong_29
  · refine g_bipush X 10 dX3_wrong_10 (by decide) ?_
    refine g_iload_n X 1 dX3_wrong_12 rfl rfl ?_
    refine g_iadd X dX3_wrong_13 ?_
    exact g_iret X Z h dX3_wrong_14

/-! TallShips.lowShift -/
noncomputable def x_lowShift (x0 x1 : Int) (w : Wd) : Option (Int × Wd) :=
  some ((x1 * (6 - x0)), w)
theorem mc_x_lowShift {lc : Launch} {D : CX} {ad : Nat → Nat} {w : Wd} {x0 x1 : Int} {v : Int × Wd} (h : x_lowShift x0 x1 w = some v) : Mc lc yX3_lowShift cX3_lowShift 2 (some .int) rmX3_lowShift D LAY ad [iv x0, iv x1] w (some (iv v.1)) v.2 0 0 := by
  refine mc_of (by decide) (Nat.le_of_ble_eq_true rfl) ?_
  intro κ X Z
  show G κ D LAY ad 0 0 w 0 [(0, iv x0), (1, iv x1)] []
  unfold x_lowShift at h
  refine g_iload_n X 1 dX3_lowShift_0 rfl rfl ?_
  refine g_bipush X 6 dX3_lowShift_1 (by decide) ?_
  refine g_iload_n X 0 dX3_lowShift_3 rfl rfl ?_
  refine g_isub X dX3_lowShift_4 ?_
  refine g_imul X dX3_lowShift_5 ?_
  exact g_iret X Z h dX3_lowShift_6

/-! TallShips.lowChoice -/
noncomputable def x_lowChoice (x0 x2 x3 : Int) (w : Wd) : Option (Int × Wd) :=
  ((x_lowShift x2 x3 w).bind fun q3 =>
  some ((land (lshr x0 q3.1) ((lshl 1 x3) - 1)), q3.2))
theorem mc_x_lowChoice {lc : Launch} {D : CX} {ad : Nat → Nat} {w : Wd} {x0 x2 x3 : Int} {v : Int × Wd} (h : x_lowChoice x0 x2 x3 w = some v) : Mc lc yX3_lowChoice cX3_lowChoice 6 (some .int) rmX3_lowChoice D LAY ad [jv x0, iv x2, iv x3] w (some (iv v.1)) v.2 0 0 := by
  refine mc_of (by decide) (Nat.le_of_ble_eq_true rfl) ?_
  intro κ X Z
  show G κ D LAY ad 0 0 w 0 [(0, jv x0), (2, iv x2), (3, iv x3)] []
  unfold x_lowChoice at h
  refine g_lload_n X 0 dX3_lowChoice_0 rfl rfl ?_
  refine g_iload_n X 1 dX3_lowChoice_1 rfl rfl ?_
  refine g_iload_n X 2 dX3_lowChoice_2 rfl rfl ?_
  obtain ⟨q3, e3, h⟩ := bindE h
  refine g_callSi X (st := [jv x0]) [iv x2, iv x3] (mc_x_lowShift e3) cal_X3_lowShift wm_X3_254 (by decide) rfl rfl ⟨by decide, by decide⟩ rfl (Nat.le_of_ble_eq_true rfl) dX3_lowChoice_3 ?_
  refine g_lshr X dX3_lowChoice_6 ?_
  refine g_lconst X 1 dX3_lowChoice_7 (by decide) ?_
  refine g_iload_n X 2 dX3_lowChoice_8 rfl rfl ?_
  refine g_lshl X dX3_lowChoice_9 ?_
  refine g_lconst X 1 dX3_lowChoice_10 (by decide) ?_
  refine g_lsub X dX3_lowChoice_11 ?_
  refine g_land X dX3_lowChoice_12 ?_
  refine g_lstore X [1, 2, 3, 0] (ls1 := [(0, jv x0), (2, iv x2), (3, iv x3), (4, jv (land (lshr x0 q3.1) ((lshl 1 x3) - 1)))]) dX3_lowChoice_13 (by decide) rfl ?_
  refine g_lload X 3 dX3_lowChoice_15 rfl ?_
  refine g_l2i X dX3_lowChoice_17 ?_
  exact g_iret X Z h dX3_lowChoice_18

/-! TallShips.berthAll -/
noncomputable def x_berthAll_5 (x1 : Int) : Nat → Int → Int → Wd → Option (Int × Wd)
  | 0, _, _, _ => none
  | n + 1, x3, x4, w =>
    (if wr (w 5 0) ≤ wr x4 then
      some (x3, w)
    else
      ((x_lowChoice x1 x4 3 w).bind fun q21 =>
      ((qy_has q21.1 q21.2).bind fun q32 =>
      (let j44 := fun (z44_0 : Int) => 
          (if 0 ≤ x4 ∧ x4 < 7 then
          (let j64 := fun (y64_3 : Int) => 
              (if 0 ≤ x4 ∧ x4 < 7 then
              (x_berthAll_5 x1 n y64_3 (x4 + 1) (wset q32.2 14 x4.toNat z44_0))
              else none)
          (if wr z44_0 = wr (q32.2 14 x4.toNat) then
            (j64 x3)
          else
            (j64 (x3 + 1))))
          else none)
      (if wr q32.1 = 0 then
        (j44 (-1))
      else
        (j44 q21.1))))))
theorem x_berthAll_5_ok {lc : Launch} {κ : KX} {D : CX} {ad : Nat → Nat} {x1 : Int} {v : Int × Wd} (X : gX κ D cX3_berthAll RX3 rmX3_berthAll lc 7) (Z : gQ κ D LAY ad (some .int) (some (iv v.1)) v.2 0 0) : ∀ (n : Nat) (x3 : Int) (x4 : Int) (w : Wd), x_berthAll_5 x1 n x3 x4 w = some v → G κ D LAY ad 0 0 w 5 [(0, .ref (ad 0)), (1, jv x1), (3, iv x3), (4, iv x4)] [] := by
  intro n
  induction n with
  | zero =>
    intro x3 x4 w h
    cases h
  | succ n ih =>
    intro x3 x4 w h
    rw [x_berthAll_5] at h
    refine g_iload X 3 dX3_berthAll_5 rfl ?_
    refine g_aload_n X 0 dX3_berthAll_7 rfl rfl ?_
    refine gf_X3_19 X dX3_berthAll_8 ?_
    refine gf_X3_68 X dX3_berthAll_11 ?_
    refine g_icmp_ge X h dX3_berthAll_14 (tgt := 82) (by decide) (fun h => ?_) (fun h => ?_)
    · refine g_iload_n X 2 dX3_berthAll_82 rfl rfl ?_
      exact g_iret X Z h dX3_berthAll_83
    · refine g_lload_n X 1 dX3_berthAll_17 rfl rfl ?_
      refine g_iload X 3 dX3_berthAll_18 rfl ?_
      refine g_iconst X dX3_berthAll_20 ?_
      obtain ⟨q21, e21, h⟩ := bindE h
      refine g_callSi X (st := []) [jv x1, iv x4, iv 3] (mc_x_lowChoice e21) cal_X3_lowChoice wm_X3_257 (by decide) rfl rfl ⟨by decide, by decide⟩ rfl (Nat.le_of_ble_eq_true rfl) dX3_berthAll_21 ?_
      refine g_istore X [1, 2, 3, 4, 0] (ls1 := [(0, .ref (ad 0)), (1, jv x1), (3, iv x3), (4, iv x4), (5, iv q21.1)]) dX3_berthAll_24 (by decide) rfl ?_
      refine g_aload_n X 0 dX3_berthAll_26 rfl rfl ?_
      refine gf_X3_26 X dX3_berthAll_27 ?_
      refine g_iload X 4 dX3_berthAll_30 rfl ?_
      obtain ⟨q32, e32, h⟩ := bindE h
      refine g_callVi X (st := []) 16 [iv q21.1] (mc_qy_has e32) cal_X1_has rfl rfl wm_X3_137 (by decide) rfl rfl ⟨by decide, by decide⟩ rfl (Nat.le_of_ble_eq_true rfl) dX3_berthAll_32 ?_
      let j44 := fun (z44_0 : Int) => ((if 0 ≤ x4 ∧ x4 < 7 then
      (let j64 := fun (y64_3 : Int) => 
          (if 0 ≤ x4 ∧ x4 < 7 then
          (x_berthAll_5 x1 n y64_3 (x4 + 1) (wset q32.2 14 x4.toNat z44_0))
          else none)
      (if wr z44_0 = wr (q32.2 14 x4.toNat) then
        (j64 x3)
      else
        (j64 (x3 + 1))))
      else none))
      have J44 : ∀ (z44_0 : Int), ((if 0 ≤ x4 ∧ x4 < 7 then
      (let j64 := fun (y64_3 : Int) => 
          (if 0 ≤ x4 ∧ x4 < 7 then
          (x_berthAll_5 x1 n y64_3 (x4 + 1) (wset q32.2 14 x4.toNat z44_0))
          else none)
      (if wr z44_0 = wr (q32.2 14 x4.toNat) then
        (j64 x3)
      else
        (j64 (x3 + 1))))
      else none)) = some v → G κ D LAY ad 0 0 q32.2 44 [(0, .ref (ad 0)), (1, jv x1), (3, iv x3), (4, iv x4)] [iv z44_0] := by
        intro z44_0 h
        refine g_istore X [1, 2, 3, 4, 0] (ls1 := [(0, .ref (ad 0)), (1, jv x1), (3, iv x3), (4, iv x4), (6, iv z44_0)]) dX3_berthAll_44 (by decide) rfl ?_
        refine g_iload X 4 dX3_berthAll_46 rfl ?_
        refine g_aload_n X 0 dX3_berthAll_48 rfl rfl ?_
        refine gf_X3_19 X dX3_berthAll_49 ?_
        refine gf_X3_142 X dX3_berthAll_52 ?_
        refine g_iload X 3 dX3_berthAll_55 rfl ?_
        refine g_iald X (n := 7) (c := 14) h rfl (by decide) dX3_berthAll_57 (fun h => ?_)
        let j64 := fun (y64_3 : Int) => ((if 0 ≤ x4 ∧ x4 < 7 then
        (x_berthAll_5 x1 n y64_3 (x4 + 1) (wset q32.2 14 x4.toNat z44_0))
        else none))
        have J64 : ∀ (y64_3 : Int), ((if 0 ≤ x4 ∧ x4 < 7 then
        (x_berthAll_5 x1 n y64_3 (x4 + 1) (wset q32.2 14 x4.toNat z44_0))
        else none)) = some v → G κ D LAY ad 0 0 q32.2 64 [(0, .ref (ad 0)), (1, jv x1), (3, iv y64_3), (4, iv x4), (6, iv z44_0)] [] := by
          intro y64_3 h
          refine g_aload_n X 0 dX3_berthAll_64 rfl rfl ?_
          refine gf_X3_19 X dX3_berthAll_65 ?_
          refine gf_X3_142 X dX3_berthAll_68 ?_
          refine g_iload X 3 dX3_berthAll_71 rfl ?_
          refine g_iload X 4 dX3_berthAll_73 rfl ?_
          refine g_iast X (n := 7) (c := 14) h rfl (by decide) dX3_berthAll_75 (fun h => ?_)
          refine g_iinc X 3 [1, 2, 3, 0, 4] (ls1 := [(0, .ref (ad 0)), (1, jv x1), (3, iv y64_3), (4, iv (x4 + 1)), (6, iv z44_0)]) dX3_berthAll_76 rfl (by decide) rfl ?_
          refine g_goto X (tgt := 5) dX3_berthAll_79 (by decide) ?_
          refine g_sub [0, 1, 2, 3] rfl ?_
          exact ih y64_3 (x4 + 1) (wset q32.2 14 x4.toNat z44_0) h
        refine g_icmp_eq X h dX3_berthAll_58 (tgt := 64) (by decide) (fun h => ?_) (fun h => ?_)
        · exact J64 x3 h
        · refine g_iinc X 2 [1, 2, 0, 3, 4] (ls1 := [(0, .ref (ad 0)), (1, jv x1), (3, iv (x3 + 1)), (4, iv x4), (6, iv z44_0)]) dX3_berthAll_61 rfl (by decide) rfl ?_
          exact J64 (x3 + 1) h
      refine g_if_eq X h dX3_berthAll_35 (tgt := 43) (by decide) (fun h => ?_) (fun h => ?_)
      · refine g_iconst X dX3_berthAll_43 ?_
        refine g_sub [0, 1, 2, 3] rfl ?_
        exact J44 (-1) h
      · refine g_iload X 4 dX3_berthAll_38 rfl ?_
        refine g_goto X (tgt := 44) dX3_berthAll_40 (by decide) ?_
        refine g_sub [0, 1, 2, 3] rfl ?_
        exact J44 q21.1 h
noncomputable def x_berthAll (x1 : Int) (w : Wd) : Option (Int × Wd) :=
  (x_berthAll_5 x1 FU 0 0 w)
theorem mc_x_berthAll {lc : Launch} {D : CX} {ad : Nat → Nat} {w : Wd} {x1 : Int} {v : Int × Wd} (h : x_berthAll x1 w = some v) : Mc lc yX3_berthAll cX3_berthAll 7 (some .int) rmX3_berthAll D LAY ad [.ref (ad 0), jv x1] w (some (iv v.1)) v.2 0 0 := by
  refine mc_of (by decide) (Nat.le_of_ble_eq_true rfl) ?_
  intro κ X Z
  show G κ D LAY ad 0 0 w 0 [(0, .ref (ad 0)), (1, jv x1)] []
  unfold x_berthAll at h
  refine g_iconst X dX3_berthAll_0 ?_
  refine g_istore_n X [1, 2, 0] (ls1 := [(0, .ref (ad 0)), (1, jv x1), (3, iv 0)]) dX3_berthAll_1 rfl (by decide) rfl ?_
  refine g_iconst X dX3_berthAll_2 ?_
  refine g_istore X [1, 2, 3, 0] (ls1 := [(0, .ref (ad 0)), (1, jv x1), (3, iv 0), (4, iv 0)]) dX3_berthAll_3 (by decide) rfl ?_
  refine x_berthAll_5_ok X Z FU 0 0 w h

/-! TallShips.measureSpans -/
noncomputable def x_measureSpans_47 (x1 x2 x3 : Int) (k1 : Wd → Option (Int × Wd)) : Nat → Int → Wd → Option (Int × Wd)
  | 0, _, _ => none
  | n + 1, x4, w =>
    (if wr x2 ≤ wr x4 then
      (k1 w)
    else
      (if 0 ≤ x4 ∧ x4 < 128 then
      (if 0 ≤ (bor x2 x4) ∧ (bor x2 x4) < 128 then
      (x_measureSpans_47 x1 x2 x3 k1 n (x4 + 1) (wset w 24 (bor x2 x4).toNat ((w 24 x4.toNat) + x3)))
      else none)
      else none))
theorem x_measureSpans_47_ok {lc : Launch} {κ : KX} {D : CX} {ad : Nat → Nat} {x1 x2 x3 : Int} {k1 : Wd → Option (Int × Wd)} {v : Int × Wd} (X : gX κ D cX3_measureSpans RX3 rmX3_measureSpans lc 5) (Z : gQ κ D LAY ad none none v.2 0 0) (hk1 : ∀ (w : Wd), k1 w = some v → G κ D LAY ad 0 0 w 77 [(0, .ref (ad 0)), (1, iv x1)] []) : ∀ (n : Nat) (x4 : Int) (w : Wd), x_measureSpans_47 x1 x2 x3 k1 n x4 w = some v → G κ D LAY ad 0 0 w 47 [(0, .ref (ad 0)), (1, iv x1), (2, iv x2), (3, iv x3), (4, iv x4)] [] := by
  intro n
  induction n with
  | zero =>
    intro x4 w h
    cases h
  | succ n ih =>
    intro x4 w h
    rw [x_measureSpans_47] at h
    refine g_iload X 4 dX3_measureSpans_47 rfl ?_
    refine g_iload_n X 2 dX3_measureSpans_49 rfl rfl ?_
    refine g_icmp_ge X h dX3_measureSpans_50 (tgt := 77) (by decide) (fun h => ?_) (fun h => ?_)
    · refine g_sub [0, 1] rfl ?_
      exact hk1 w h
    · refine g_aload_n X 0 dX3_measureSpans_53 rfl rfl ?_
      refine gf_X3_37 X dX3_measureSpans_54 ?_
      refine g_iload_n X 2 dX3_measureSpans_57 rfl rfl ?_
      refine g_iload X 4 dX3_measureSpans_58 rfl ?_
      refine g_ior X dX3_measureSpans_60 ?_
      refine g_aload_n X 0 dX3_measureSpans_61 rfl rfl ?_
      refine gf_X3_37 X dX3_measureSpans_62 ?_
      refine g_iload X 4 dX3_measureSpans_65 rfl ?_
      refine g_iald X (n := 128) (c := 24) h rfl (by decide) dX3_measureSpans_67 (fun h => ?_)
      refine g_iload_n X 3 dX3_measureSpans_68 rfl rfl ?_
      refine g_iadd X dX3_measureSpans_69 ?_
      refine g_iast X (n := 128) (c := 24) h rfl (by decide) dX3_measureSpans_70 (fun h => ?_)
      refine g_iinc X 4 [1, 2, 3, 4, 0] (ls1 := [(0, .ref (ad 0)), (1, iv x1), (2, iv x2), (3, iv x3), (4, iv (x4 + 1))]) dX3_measureSpans_71 rfl (by decide) rfl ?_
      refine g_goto X (tgt := 47) dX3_measureSpans_74 (by decide) ?_
      exact ih (x4 + 1) (wset w 24 (bor x2 x4).toNat ((w 24 x4.toNat) + x3)) h
noncomputable def x_measureSpans_9 : Nat → Int → Wd → Option (Int × Wd)
  | 0, _, _ => none
  | n + 1, x1, w =>
    (if wr (w 5 0) ≤ wr x1 then
      some (0, w)
    else
      (if 0 ≤ x1 ∧ x1 < 7 then
      (x_measureSpans_47 x1 (bshl 1 x1) ((w 6 x1.toNat) + (w 4 3)) (fun (w77 : Wd) =>
        (x_measureSpans_9 n (x1 + 1) w77)) FU 0 w)
      else none))
theorem x_measureSpans_9_ok {lc : Launch} {κ : KX} {D : CX} {ad : Nat → Nat} {v : Int × Wd} (X : gX κ D cX3_measureSpans RX3 rmX3_measureSpans lc 5) (Z : gQ κ D LAY ad none none v.2 0 0) : ∀ (n : Nat) (x1 : Int) (w : Wd), x_measureSpans_9 n x1 w = some v → G κ D LAY ad 0 0 w 9 [(0, .ref (ad 0)), (1, iv x1)] [] := by
  intro n
  induction n with
  | zero =>
    intro x1 w h
    cases h
  | succ n ih =>
    intro x1 w h
    rw [x_measureSpans_9] at h
    refine g_iload_n X 1 dX3_measureSpans_9 rfl rfl ?_
    refine g_aload_n X 0 dX3_measureSpans_10 rfl rfl ?_
    refine gf_X3_19 X dX3_measureSpans_11 ?_
    refine gf_X3_68 X dX3_measureSpans_14 ?_
    refine g_icmp_ge X h dX3_measureSpans_17 (tgt := 83) (by decide) (fun h => ?_) (fun h => ?_)
    · exact g_vret X Z h dX3_measureSpans_83
    · refine g_iconst X dX3_measureSpans_20 ?_
      refine g_iload_n X 1 dX3_measureSpans_21 rfl rfl ?_
      refine g_ishl X dX3_measureSpans_22 ?_
      refine g_istore_n X [1, 2, 0] (ls1 := [(0, .ref (ad 0)), (1, iv x1), (2, iv (bshl 1 x1))]) dX3_measureSpans_23 rfl (by decide) rfl ?_
      refine g_aload_n X 0 dX3_measureSpans_24 rfl rfl ?_
      refine gf_X3_19 X dX3_measureSpans_25 ?_
      refine gf_X3_72 X dX3_measureSpans_28 ?_
      refine g_iload_n X 1 dX3_measureSpans_31 rfl rfl ?_
      refine g_iald X (n := 7) (c := 6) h rfl (by decide) dX3_measureSpans_32 (fun h => ?_)
      refine g_aload_n X 0 dX3_measureSpans_33 rfl rfl ?_
      refine gf_X3_12 X dX3_measureSpans_34 ?_
      refine gf_X3_54 X dX3_measureSpans_37 ?_
      refine g_iconst X dX3_measureSpans_40 ?_
      refine g_ialdC X 3 (n := 5) (c := 4) (by decide) (by decide) rfl (by decide) dX3_measureSpans_41 ?_
      refine g_iadd X dX3_measureSpans_42 ?_
      refine g_istore_n X [1, 2, 3, 0] (ls1 := [(0, .ref (ad 0)), (1, iv x1), (2, iv (bshl 1 x1)), (3, iv ((w 6 x1.toNat) + (w 4 3)))]) dX3_measureSpans_43 rfl (by decide) rfl ?_
      refine g_iconst X dX3_measureSpans_44 ?_
      refine g_istore X [1, 2, 3, 4, 0] (ls1 := [(0, .ref (ad 0)), (1, iv x1), (2, iv (bshl 1 x1)), (3, iv ((w 6 x1.toNat) + (w 4 3))), (4, iv 0)]) dX3_measureSpans_45 (by decide) rfl ?_
      refine x_measureSpans_47_ok X Z ?_ FU 0 w h
      · intro w77 h
        refine g_iinc X 1 [1, 0] (ls1 := [(0, .ref (ad 0)), (1, iv (x1 + 1))]) dX3_measureSpans_77 rfl (by decide) rfl ?_
        refine g_goto X (tgt := 9) dX3_measureSpans_80 (by decide) ?_
        exact ih (x1 + 1) w77 h
noncomputable def x_measureSpans (w : Wd) : Option (Int × Wd) :=
  (x_measureSpans_9 FU 0 (wset w 24 0 0))
theorem mc_x_measureSpans {lc : Launch} {D : CX} {ad : Nat → Nat} {w : Wd} {v : Int × Wd} (h : x_measureSpans w = some v) : Mc lc yX3_measureSpans cX3_measureSpans 5 none rmX3_measureSpans D LAY ad [.ref (ad 0)] w none v.2 0 0 := by
  refine mc_of (by decide) (Nat.le_of_ble_eq_true rfl) ?_
  intro κ X Z
  show G κ D LAY ad 0 0 w 0 [(0, .ref (ad 0))] []
  unfold x_measureSpans at h
  refine g_aload_n X 0 dX3_measureSpans_0 rfl rfl ?_
  refine gf_X3_37 X dX3_measureSpans_1 ?_
  refine g_iconst X dX3_measureSpans_4 ?_
  refine g_iconst X dX3_measureSpans_5 ?_
  refine g_iastC X 0 (n := 128) (c := 24) (by decide) (by decide) rfl (by decide) dX3_measureSpans_6 ?_
  refine g_iconst X dX3_measureSpans_7 ?_
  refine g_istore_n X [1, 0] (ls1 := [(0, .ref (ad 0)), (1, iv 0)]) dX3_measureSpans_8 rfl (by decide) rfl ?_
  refine x_measureSpans_9_ok X Z FU 0 (wset w 24 0 0) h

/-! TallShips.offerQuay -/
noncomputable def x_offerQuay_22 (x1 : Int) (k1 : Int → Wd → Option (Int × Wd)) : Nat → Int → Int → Wd → Option (Int × Wd)
  | 0, _, _, _ => none
  | n + 1, x2, x4, w =>
    (if wr x4 ≤ 0 then
      (k1 x2 w)
    else
      (if 0 ≤ x4 ∧ x4 < 128 then
      (let j63 := fun (y63_2 : Int) (w63 : Wd) => 
          (x_offerQuay_22 x1 k1 n y63_2 (band (x4 - 1) x1) w63)
      (if wr (bcmp (w 23 x4.toNat) (-1)) = 0 then
        (j63 x2 w)
      else
        (if 0 ≤ x4 ∧ x4 < 128 then
        (if 0 ≤ (bxor x1 x4) ∧ (bxor x1 x4) < 128 then
        (j63 (lmin x2 ((w 23 x4.toNat) + (w 22 (bxor x1 x4).toNat))) w)
        else none)
        else none)))
      else none))
theorem x_offerQuay_22_ok {lc : Launch} {κ : KX} {D : CX} {ad : Nat → Nat} {x1 : Int} {k1 : Int → Wd → Option (Int × Wd)} {v : Int × Wd} (X : gX κ D cX3_offerQuay RX3 rmX3_offerQuay lc 5) (Z : gQ κ D LAY ad none none v.2 0 0) (hk1 : ∀ (x2 : Int) (w : Wd), k1 x2 w = some v → G κ D LAY ad 0 0 w 74 [(0, .ref (ad 0)), (1, iv x1), (2, jv x2)] []) : ∀ (n : Nat) (x2 : Int) (x4 : Int) (w : Wd), x_offerQuay_22 x1 k1 n x2 x4 w = some v → G κ D LAY ad 0 0 w 22 [(0, .ref (ad 0)), (1, iv x1), (2, jv x2), (4, iv x4)] [] := by
  intro n
  induction n with
  | zero =>
    intro x2 x4 w h
    cases h
  | succ n ih =>
    intro x2 x4 w h
    rw [x_offerQuay_22] at h
    refine g_iload X 3 dX3_offerQuay_22 rfl ?_
    refine g_if_le X h dX3_offerQuay_24 (tgt := 74) (by decide) (fun h => ?_) (fun h => ?_)
    · refine g_sub [0, 1, 2] rfl ?_
      exact hk1 x2 w h
    · refine g_aload_n X 0 dX3_offerQuay_27 rfl rfl ?_
      refine gf_X3_34 X dX3_offerQuay_28 ?_
      refine g_iload X 3 dX3_offerQuay_31 rfl ?_
      refine g_lald X (n := 128) (c := 23) h rfl (by decide) dX3_offerQuay_33 (fun h => ?_)
      refine g_ldc2 X (-1) dX3_offerQuay_34 wk_X3_176 ?_
      refine g_lcmp X dX3_offerQuay_37 ?_
      let j63 := fun (y63_2 : Int) (w63 : Wd) => ((x_offerQuay_22 x1 k1 n y63_2 (band (x4 - 1) x1) w63))
      have J63 : ∀ (y63_2 : Int) (w63 : Wd), ((x_offerQuay_22 x1 k1 n y63_2 (band (x4 - 1) x1) w63)) = some v → G κ D LAY ad 0 0 w63 63 [(0, .ref (ad 0)), (1, iv x1), (2, jv y63_2), (4, iv x4)] [] := by
        intro y63_2 w63 h
        refine g_iload X 3 dX3_offerQuay_63 rfl ?_
        refine g_iconst X dX3_offerQuay_65 ?_
        refine g_isub X dX3_offerQuay_66 ?_
        refine g_iload_n X 1 dX3_offerQuay_67 rfl rfl ?_
        refine g_iand X dX3_offerQuay_68 ?_
        refine g_istore X [1, 2, 3, 0] (ls1 := [(0, .ref (ad 0)), (1, iv x1), (2, jv y63_2), (4, iv (band (x4 - 1) x1))]) dX3_offerQuay_69 (by decide) rfl ?_
        refine g_goto X (tgt := 22) dX3_offerQuay_71 (by decide) ?_
        exact ih y63_2 (band (x4 - 1) x1) w63 h
      refine g_if_eq X h dX3_offerQuay_38 (tgt := 63) (by decide) (fun h => ?_) (fun h => ?_)
      · exact J63 x2 w h
      · refine g_lload_n X 2 dX3_offerQuay_41 rfl rfl ?_
        refine g_aload_n X 0 dX3_offerQuay_42 rfl rfl ?_
        refine gf_X3_34 X dX3_offerQuay_43 ?_
        refine g_iload X 3 dX3_offerQuay_46 rfl ?_
        refine g_lald X (n := 128) (c := 23) h rfl (by decide) dX3_offerQuay_48 (fun h => ?_)
        refine g_aload_n X 0 dX3_offerQuay_49 rfl rfl ?_
        refine gf_X3_30 X dX3_offerQuay_50 ?_
        refine g_iload_n X 1 dX3_offerQuay_53 rfl rfl ?_
        refine g_iload X 3 dX3_offerQuay_54 rfl ?_
        refine g_ixor X dX3_offerQuay_56 ?_
        refine g_lald X (n := 128) (c := 22) h rfl (by decide) dX3_offerQuay_57 (fun h => ?_)
        refine g_ladd X dX3_offerQuay_58 ?_
        refine g_mminL X wm_X3_248 (by decide) ⟨by decide, by decide⟩ (Nat.le_of_ble_eq_true rfl) dX3_offerQuay_59 ?_
        refine g_lstore_n X [1, 2, 0, 3] (ls1 := [(0, .ref (ad 0)), (1, iv x1), (2, jv (lmin x2 ((w 23 x4.toNat) + (w 22 (bxor x1 x4).toNat)))), (4, iv x4)]) dX3_offerQuay_62 rfl (by decide) rfl ?_
        exact J63 (lmin x2 ((w 23 x4.toNat) + (w 22 (bxor x1 x4).toNat))) w h
noncomputable def x_offerQuay_8 : Nat → Int → Wd → Option (Int × Wd)
  | 0, _, _ => none
  | n + 1, x1, w =>
    (if wr x1 ≤ 0 then
      some (0, w)
    else
      (if 0 ≤ x1 ∧ x1 < 128 then
      (x_offerQuay_22 x1 (fun (e74_2 : Int) (w74 : Wd) =>
        (if 0 ≤ x1 ∧ x1 < 128 then
        (x_offerQuay_8 n (x1 + (-1)) (wset w74 22 x1.toNat e74_2))
        else none)) FU (w 22 x1.toNat) x1 w)
      else none))
theorem x_offerQuay_8_ok {lc : Launch} {κ : KX} {D : CX} {ad : Nat → Nat} {v : Int × Wd} (X : gX κ D cX3_offerQuay RX3 rmX3_offerQuay lc 5) (Z : gQ κ D LAY ad none none v.2 0 0) : ∀ (n : Nat) (x1 : Int) (w : Wd), x_offerQuay_8 n x1 w = some v → G κ D LAY ad 0 0 w 8 [(0, .ref (ad 0)), (1, iv x1)] [] := by
  intro n
  induction n with
  | zero =>
    intro x1 w h
    cases h
  | succ n ih =>
    intro x1 w h
    rw [x_offerQuay_8] at h
    refine g_iload_n X 1 dX3_offerQuay_8 rfl rfl ?_
    refine g_if_le X h dX3_offerQuay_9 (tgt := 87) (by decide) (fun h => ?_) (fun h => ?_)
    · exact g_vret X Z h dX3_offerQuay_87
    · refine g_aload_n X 0 dX3_offerQuay_12 rfl rfl ?_
      refine gf_X3_30 X dX3_offerQuay_13 ?_
      refine g_iload_n X 1 dX3_offerQuay_16 rfl rfl ?_
      refine g_lald X (n := 128) (c := 22) h rfl (by decide) dX3_offerQuay_17 (fun h => ?_)
      refine g_lstore_n X [1, 2, 0] (ls1 := [(0, .ref (ad 0)), (1, iv x1), (2, jv (w 22 x1.toNat))]) dX3_offerQuay_18 rfl (by decide) rfl ?_
      refine g_iload_n X 1 dX3_offerQuay_19 rfl rfl ?_
      refine g_istore X [1, 2, 3, 0] (ls1 := [(0, .ref (ad 0)), (1, iv x1), (2, jv (w 22 x1.toNat)), (4, iv x1)]) dX3_offerQuay_20 (by decide) rfl ?_
      refine x_offerQuay_22_ok X Z ?_ FU (w 22 x1.toNat) x1 w h
      · intro e74_2 w74 h
        refine g_aload_n X 0 dX3_offerQuay_74 rfl rfl ?_
        refine gf_X3_30 X dX3_offerQuay_75 ?_
        refine g_iload_n X 1 dX3_offerQuay_78 rfl rfl ?_
        refine g_lload_n X 2 dX3_offerQuay_79 rfl rfl ?_
        refine g_last X (n := 128) (c := 22) h rfl (by decide) dX3_offerQuay_80 (fun h => ?_)
        refine g_iinc X 1 [1, 0, 2] (ls1 := [(0, .ref (ad 0)), (1, iv (x1 + (-1))), (2, jv e74_2)]) dX3_offerQuay_81 rfl (by decide) rfl ?_
        refine g_goto X (tgt := 8) dX3_offerQuay_84 (by decide) ?_
        refine g_sub [0, 1] rfl ?_
        exact ih (x1 + (-1)) (wset w74 22 x1.toNat e74_2) h
noncomputable def x_offerQuay (w : Wd) : Option (Int × Wd) :=
  ((fl_all w).bind fun q4 =>
  (x_offerQuay_8 FU q4.1 q4.2))
theorem mc_x_offerQuay {lc : Launch} {D : CX} {ad : Nat → Nat} {w : Wd} {v : Int × Wd} (h : x_offerQuay w = some v) : Mc lc yX3_offerQuay cX3_offerQuay 5 none rmX3_offerQuay D LAY ad [.ref (ad 0)] w none v.2 0 0 := by
  refine mc_of (by decide) (Nat.le_of_ble_eq_true rfl) ?_
  intro κ X Z
  show G κ D LAY ad 0 0 w 0 [(0, .ref (ad 0))] []
  unfold x_offerQuay at h
  refine g_aload_n X 0 dX3_offerQuay_0 rfl rfl ?_
  refine gf_X3_19 X dX3_offerQuay_1 ?_
  obtain ⟨q4, e4, h⟩ := bindE h
  refine g_callVi X (st := []) 5 [] (mc_fl_all e4) cal_X0_all rfl rfl wm_X3_241 (by decide) rfl rfl ⟨by decide, by decide⟩ rfl (Nat.le_of_ble_eq_true rfl) dX3_offerQuay_4 ?_
  refine g_istore_n X [1, 0] (ls1 := [(0, .ref (ad 0)), (1, iv q4.1)]) dX3_offerQuay_7 rfl (by decide) rfl ?_
  refine x_offerQuay_8_ok X Z FU q4.1 q4.2 h

/-! TallShips.berthCost -/
noncomputable def x_berthCost (x1 x2 x3 : Int) (w : Wd) : Option (Int × Wd) :=
  (let j13 := fun (z13_0 : Int) => 
      ((x_showAt x1 x2 w).bind fun q21 =>
      (let j50 := fun (z50_0 : Int) => 
          (let j62 := fun (z62_0 : Int) => 
              ((x_lowShift x1 3 q21.2).bind fun q68 =>
              some (((((lshl z13_0 q68.1) + (lshl (wr (1000 - q21.1)) 21)) + (lshl z50_0 34)) + (lshl z62_0 37)), q68.2))
          (if wr x2 = wr (-1) then
            (j62 1)
          else
            (j62 0)))
      let j49 := fun (_ : Unit) => 
          (j50 0)
      (if wr x3 = 0 then
        (j49 ())
      else
        (if 0 ≤ x1 ∧ x1 < 7 then
        (if wr x2 = wr (q21.2 14 x1.toNat) then
          (j49 ())
        else
          (j50 1))
        else none))))
  (if wr x2 = wr (-1) then
    (j13 4)
  else
    (j13 (wr x2))))
theorem mc_x_berthCost {lc : Launch} {D : CX} {ad : Nat → Nat} {w : Wd} {x1 x2 x3 : Int} {v : Int × Wd} (h : x_berthCost x1 x2 x3 w = some v) : Mc lc yX3_berthCost cX3_berthCost 12 (some .long) rmX3_berthCost D LAY ad [.ref (ad 0), iv x1, iv x2, iv x3] w (some (jv v.1)) v.2 0 0 := by
  refine mc_of (by decide) (Nat.le_of_ble_eq_true rfl) ?_
  intro κ X Z
  show G κ D LAY ad 0 0 w 0 [(0, .ref (ad 0)), (1, iv x1), (2, iv x2), (3, iv x3)] []
  unfold x_berthCost at h
  refine g_iload_n X 2 dX3_berthCost_0 rfl rfl ?_
  refine g_iconst X dX3_berthCost_1 ?_
  let j13 := fun (z13_0 : Int) => (((x_showAt x1 x2 w).bind fun q21 =>
  (let j50 := fun (z50_0 : Int) => 
      (let j62 := fun (z62_0 : Int) => 
          ((x_lowShift x1 3 q21.2).bind fun q68 =>
          some (((((lshl z13_0 q68.1) + (lshl (wr (1000 - q21.1)) 21)) + (lshl z50_0 34)) + (lshl z62_0 37)), q68.2))
      (if wr x2 = wr (-1) then
        (j62 1)
      else
        (j62 0)))
  let j49 := fun (_ : Unit) => 
      (j50 0)
  (if wr x3 = 0 then
    (j49 ())
  else
    (if 0 ≤ x1 ∧ x1 < 7 then
    (if wr x2 = wr (q21.2 14 x1.toNat) then
      (j49 ())
    else
      (j50 1))
    else none)))))
  have J13 : ∀ (z13_0 : Int), (((x_showAt x1 x2 w).bind fun q21 =>
  (let j50 := fun (z50_0 : Int) => 
      (let j62 := fun (z62_0 : Int) => 
          ((x_lowShift x1 3 q21.2).bind fun q68 =>
          some (((((lshl z13_0 q68.1) + (lshl (wr (1000 - q21.1)) 21)) + (lshl z50_0 34)) + (lshl z62_0 37)), q68.2))
      (if wr x2 = wr (-1) then
        (j62 1)
      else
        (j62 0)))
  let j49 := fun (_ : Unit) => 
      (j50 0)
  (if wr x3 = 0 then
    (j49 ())
  else
    (if 0 ≤ x1 ∧ x1 < 7 then
    (if wr x2 = wr (q21.2 14 x1.toNat) then
      (j49 ())
    else
      (j50 1))
    else none))))) = some v → G κ D LAY ad 0 0 w 13 [(0, .ref (ad 0)), (1, iv x1), (2, iv x2), (3, iv x3)] [jv z13_0] := by
    intro z13_0 h
    refine g_lstore X [1, 2, 3, 4, 0] (ls1 := [(0, .ref (ad 0)), (1, iv x1), (2, iv x2), (3, iv x3), (4, jv z13_0)]) dX3_berthCost_13 (by decide) rfl ?_
    refine g_sipush X 1000 dX3_berthCost_15 (by decide) ?_
    refine g_aload_n X 0 dX3_berthCost_18 rfl rfl ?_
    refine g_iload_n X 1 dX3_berthCost_19 rfl rfl ?_
    refine g_iload_n X 2 dX3_berthCost_20 rfl rfl ?_
    obtain ⟨q21, e21, h⟩ := bindE h
    refine g_callVi X (st := [iv 1000]) 0 [iv x1, iv x2] (mc_x_showAt e21) cal_X3_showAt rfl rfl wm_X3_221 (by decide) rfl rfl ⟨by decide, by decide⟩ rfl (Nat.le_of_ble_eq_true rfl) dX3_berthCost_21 ?_
    refine g_isub X dX3_berthCost_24 ?_
    refine g_i2l X dX3_berthCost_25 ?_
    refine g_lstore X [1, 2, 3, 4, 5, 0] (ls1 := [(0, .ref (ad 0)), (1, iv x1), (2, iv x2), (3, iv x3), (4, jv z13_0), (6, jv (wr (1000 - q21.1)))]) dX3_berthCost_26 (by decide) rfl ?_
    refine g_iload_n X 3 dX3_berthCost_28 rfl rfl ?_
    let j50 := fun (z50_0 : Int) => ((let j62 := fun (z62_0 : Int) => 
        ((x_lowShift x1 3 q21.2).bind fun q68 =>
        some (((((lshl z13_0 q68.1) + (lshl (wr (1000 - q21.1)) 21)) + (lshl z50_0 34)) + (lshl z62_0 37)), q68.2))
    (if wr x2 = wr (-1) then
      (j62 1)
    else
      (j62 0))))
    have J50 : ∀ (z50_0 : Int), ((let j62 := fun (z62_0 : Int) => 
        ((x_lowShift x1 3 q21.2).bind fun q68 =>
        some (((((lshl z13_0 q68.1) + (lshl (wr (1000 - q21.1)) 21)) + (lshl z50_0 34)) + (lshl z62_0 37)), q68.2))
    (if wr x2 = wr (-1) then
      (j62 1)
    else
      (j62 0)))) = some v → G κ D LAY ad 0 0 q21.2 50 [(1, iv x1), (2, iv x2), (4, jv z13_0), (6, jv (wr (1000 - q21.1)))] [jv z50_0] := by
      intro z50_0 h
      refine g_lstore X [1, 2, 3, 4, 0] (ls1 := [(1, iv x1), (2, iv x2), (4, jv z13_0), (6, jv (wr (1000 - q21.1))), (8, jv z50_0)]) dX3_berthCost_50 (by decide) rfl ?_
      refine g_iload_n X 1 dX3_berthCost_52 rfl rfl ?_
      refine g_iconst X dX3_berthCost_53 ?_
      let j62 := fun (z62_0 : Int) => (((x_lowShift x1 3 q21.2).bind fun q68 =>
      some (((((lshl z13_0 q68.1) + (lshl (wr (1000 - q21.1)) 21)) + (lshl z50_0 34)) + (lshl z62_0 37)), q68.2)))
      have J62 : ∀ (z62_0 : Int), (((x_lowShift x1 3 q21.2).bind fun q68 =>
      some (((((lshl z13_0 q68.1) + (lshl (wr (1000 - q21.1)) 21)) + (lshl z50_0 34)) + (lshl z62_0 37)), q68.2))) = some v → G κ D LAY ad 0 0 q21.2 62 [(1, iv x1), (4, jv z13_0), (6, jv (wr (1000 - q21.1))), (8, jv z50_0)] [jv z62_0] := by
        intro z62_0 h
        refine g_lstore X [1, 2, 3, 4, 0] (ls1 := [(1, iv x1), (4, jv z13_0), (6, jv (wr (1000 - q21.1))), (8, jv z50_0), (10, jv z62_0)]) dX3_berthCost_62 (by decide) rfl ?_
        refine g_lload X 1 dX3_berthCost_64 rfl ?_
        refine g_iload_n X 0 dX3_berthCost_66 rfl rfl ?_
        refine g_iconst X dX3_berthCost_67 ?_
        obtain ⟨q68, e68, h⟩ := bindE h
        refine g_callSi X (st := [jv z13_0]) [iv x1, iv 3] (mc_x_lowShift e68) cal_X3_lowShift wm_X3_254 (by decide) rfl rfl ⟨by decide, by decide⟩ rfl (Nat.le_of_ble_eq_true rfl) dX3_berthCost_68 ?_
        refine g_lshl X dX3_berthCost_71 ?_
        refine g_lload X 2 dX3_berthCost_72 rfl ?_
        refine g_bipush X 21 dX3_berthCost_74 (by decide) ?_
        refine g_lshl X dX3_berthCost_76 ?_
        refine g_ladd X dX3_berthCost_77 ?_
        refine g_lload X 3 dX3_berthCost_78 rfl ?_
        refine g_bipush X 34 dX3_berthCost_80 (by decide) ?_
        refine g_lshl X dX3_berthCost_82 ?_
        refine g_ladd X dX3_berthCost_83 ?_
        refine g_lload X 4 dX3_berthCost_84 rfl ?_
        refine g_bipush X 37 dX3_berthCost_86 (by decide) ?_
        refine g_lshl X dX3_berthCost_88 ?_
        refine g_ladd X dX3_berthCost_89 ?_
        exact g_lret X Z h dX3_berthCost_90
      refine g_icmp_ne X h dX3_berthCost_54 (tgt := 61) (by decide) (fun h => ?_) (fun h => ?_)
      · refine g_lconst X 0 dX3_berthCost_61 (by decide) ?_
        refine g_sub [0, 2, 3, 4] rfl ?_
        exact J62 0 h
      · refine g_lconst X 1 dX3_berthCost_57 (by decide) ?_
        refine g_goto X (tgt := 62) dX3_berthCost_58 (by decide) ?_
        refine g_sub [0, 2, 3, 4] rfl ?_
        exact J62 1 h
    let j49 := fun (_ : Unit) => ((j50 0))
    have J49 : ∀ (_u : Unit), ((j50 0)) = some v → G κ D LAY ad 0 0 q21.2 49 [(1, iv x1), (2, iv x2), (4, jv z13_0), (6, jv (wr (1000 - q21.1)))] [] := by
      intro _u h
      refine g_lconst X 0 dX3_berthCost_49 (by decide) ?_
      exact J50 0 h
    refine g_if_eq X h dX3_berthCost_29 (tgt := 49) (by decide) (fun h => ?_) (fun h => ?_)
    · refine g_sub [1, 2, 4, 5] rfl ?_
      exact J49 () h
    · refine g_iload_n X 2 dX3_berthCost_32 rfl rfl ?_
      refine g_aload_n X 0 dX3_berthCost_33 rfl rfl ?_
      refine gf_X3_19 X dX3_berthCost_34 ?_
      refine gf_X3_142 X dX3_berthCost_37 ?_
      refine g_iload_n X 1 dX3_berthCost_40 rfl rfl ?_
      refine g_iald X (n := 7) (c := 14) h rfl (by decide) dX3_berthCost_41 (fun h => ?_)
      refine g_icmp_eq X h dX3_berthCost_42 (tgt := 49) (by decide) (fun h => ?_) (fun h => ?_)
      · refine g_sub [1, 2, 4, 5] rfl ?_
        exact J49 () h
      · refine g_lconst X 1 dX3_berthCost_45 (by decide) ?_
        refine g_goto X (tgt := 50) dX3_berthCost_46 (by decide) ?_
        refine g_sub [1, 2, 4, 5] rfl ?_
        exact J50 1 h
  refine g_icmp_ne X h dX3_berthCost_2 (tgt := 11) (by decide) (fun h => ?_) (fun h => ?_)
  · refine g_iload_n X 2 dX3_berthCost_11 rfl rfl ?_
    refine g_i2l X dX3_berthCost_12 ?_
    exact J13 (wr x2) h
  · refine g_ldc2 X 4 dX3_berthCost_5 wk_X3_252 ?_
    refine g_goto X (tgt := 13) dX3_berthCost_8 (by decide) ?_
    exact J13 4 h

/-! TallShips.startIdle -/
noncomputable def x_startIdle_36 (x1 x2 x3 x4 : Int) (k1 : Wd → Option (Int × Wd)) : Nat → Int → Wd → Option (Int × Wd)
  | 0, _, _ => none
  | n + 1, x6, w =>
    (if wr x3 ≤ wr x6 then
      (k1 w)
    else
      (if 0 ≤ x6 ∧ x6 < 128 then
      (if 0 ≤ (bor x3 x6) ∧ (bor x3 x6) < 128 then
      (x_startIdle_36 x1 x2 x3 x4 k1 n (x6 + 1) (wset w 22 (bor x3 x6).toNat ((w 22 x6.toNat) + x4)))
      else none)
      else none))
theorem x_startIdle_36_ok {lc : Launch} {κ : KX} {D : CX} {ad : Nat → Nat} {x1 x2 x3 x4 : Int} {k1 : Wd → Option (Int × Wd)} {v : Int × Wd} (X : gX κ D cX3_startIdle RX3 rmX3_startIdle lc 7) (Z : gQ κ D LAY ad none none v.2 0 0) (hk1 : ∀ (w : Wd), k1 w = some v → G κ D LAY ad 0 0 w 67 [(0, .ref (ad 0)), (1, iv x1), (2, iv x2)] []) : ∀ (n : Nat) (x6 : Int) (w : Wd), x_startIdle_36 x1 x2 x3 x4 k1 n x6 w = some v → G κ D LAY ad 0 0 w 36 [(0, .ref (ad 0)), (1, iv x1), (2, iv x2), (3, iv x3), (4, jv x4), (6, iv x6)] [] := by
  intro n
  induction n with
  | zero =>
    intro x6 w h
    cases h
  | succ n ih =>
    intro x6 w h
    rw [x_startIdle_36] at h
    refine g_iload X 5 dX3_startIdle_36 rfl ?_
    refine g_iload_n X 3 dX3_startIdle_38 rfl rfl ?_
    refine g_icmp_ge X h dX3_startIdle_39 (tgt := 67) (by decide) (fun h => ?_) (fun h => ?_)
    · refine g_sub [0, 1, 2] rfl ?_
      exact hk1 w h
    · refine g_aload_n X 0 dX3_startIdle_42 rfl rfl ?_
      refine gf_X3_30 X dX3_startIdle_43 ?_
      refine g_iload_n X 3 dX3_startIdle_46 rfl rfl ?_
      refine g_iload X 5 dX3_startIdle_47 rfl ?_
      refine g_ior X dX3_startIdle_49 ?_
      refine g_aload_n X 0 dX3_startIdle_50 rfl rfl ?_
      refine gf_X3_30 X dX3_startIdle_51 ?_
      refine g_iload X 5 dX3_startIdle_54 rfl ?_
      refine g_lald X (n := 128) (c := 22) h rfl (by decide) dX3_startIdle_56 (fun h => ?_)
      refine g_lload X 4 dX3_startIdle_57 rfl ?_
      refine g_ladd X dX3_startIdle_59 ?_
      refine g_last X (n := 128) (c := 22) h rfl (by decide) dX3_startIdle_60 (fun h => ?_)
      refine g_iinc X 5 [1, 2, 3, 4, 5, 0] (ls1 := [(0, .ref (ad 0)), (1, iv x1), (2, iv x2), (3, iv x3), (4, jv x4), (6, iv (x6 + 1))]) dX3_startIdle_61 rfl (by decide) rfl ?_
      refine g_goto X (tgt := 36) dX3_startIdle_64 (by decide) ?_
      exact ih (x6 + 1) (wset w 22 (bor x3 x6).toNat ((w 22 x6.toNat) + x4)) h
noncomputable def x_startIdle_9 (x1 : Int) : Nat → Int → Wd → Option (Int × Wd)
  | 0, _, _ => none
  | n + 1, x2, w =>
    (if wr (w 5 0) ≤ wr x2 then
      some (0, w)
    else
      ((x_berthCost x2 (-1) x1 w).bind fun q28 =>
      (x_startIdle_36 x1 x2 (bshl 1 x2) q28.1 (fun (w67 : Wd) =>
        (x_startIdle_9 x1 n (x2 + 1) w67)) FU 0 q28.2)))
theorem x_startIdle_9_ok {lc : Launch} {κ : KX} {D : CX} {ad : Nat → Nat} {x1 : Int} {v : Int × Wd} (X : gX κ D cX3_startIdle RX3 rmX3_startIdle lc 7) (Z : gQ κ D LAY ad none none v.2 0 0) : ∀ (n : Nat) (x2 : Int) (w : Wd), x_startIdle_9 x1 n x2 w = some v → G κ D LAY ad 0 0 w 9 [(0, .ref (ad 0)), (1, iv x1), (2, iv x2)] [] := by
  intro n
  induction n with
  | zero =>
    intro x2 w h
    cases h
  | succ n ih =>
    intro x2 w h
    rw [x_startIdle_9] at h
    refine g_iload_n X 2 dX3_startIdle_9 rfl rfl ?_
    refine g_aload_n X 0 dX3_startIdle_10 rfl rfl ?_
    refine gf_X3_19 X dX3_startIdle_11 ?_
    refine gf_X3_68 X dX3_startIdle_14 ?_
    refine g_icmp_ge X h dX3_startIdle_17 (tgt := 73) (by decide) (fun h => ?_) (fun h => ?_)
    · exact g_vret X Z h dX3_startIdle_73
    · refine g_iconst X dX3_startIdle_20 ?_
      refine g_iload_n X 2 dX3_startIdle_21 rfl rfl ?_
      refine g_ishl X dX3_startIdle_22 ?_
      refine g_istore_n X [1, 2, 3, 0] (ls1 := [(0, .ref (ad 0)), (1, iv x1), (2, iv x2), (3, iv (bshl 1 x2))]) dX3_startIdle_23 rfl (by decide) rfl ?_
      refine g_aload_n X 0 dX3_startIdle_24 rfl rfl ?_
      refine g_iload_n X 2 dX3_startIdle_25 rfl rfl ?_
      refine g_iconst X dX3_startIdle_26 ?_
      refine g_iload_n X 1 dX3_startIdle_27 rfl rfl ?_
      obtain ⟨q28, e28, h⟩ := bindE h
      refine g_callVl X (st := []) 0 [iv x2, iv (-1), iv x1] (mc_x_berthCost e28) cal_X3_berthCost rfl rfl wm_X3_244 (by decide) rfl rfl ⟨by decide, by decide⟩ rfl (Nat.le_of_ble_eq_true rfl) dX3_startIdle_28 ?_
      refine g_lstore X [1, 2, 3, 4, 0] (ls1 := [(0, .ref (ad 0)), (1, iv x1), (2, iv x2), (3, iv (bshl 1 x2)), (4, jv q28.1)]) dX3_startIdle_31 (by decide) rfl ?_
      refine g_iconst X dX3_startIdle_33 ?_
      refine g_istore X [1, 2, 3, 4, 5, 0] (ls1 := [(0, .ref (ad 0)), (1, iv x1), (2, iv x2), (3, iv (bshl 1 x2)), (4, jv q28.1), (6, iv 0)]) dX3_startIdle_34 (by decide) rfl ?_
      refine x_startIdle_36_ok X Z ?_ FU 0 q28.2 h
      · intro w67 h
        refine g_iinc X 2 [1, 2, 0] (ls1 := [(0, .ref (ad 0)), (1, iv x1), (2, iv (x2 + 1))]) dX3_startIdle_67 rfl (by decide) rfl ?_
        refine g_goto X (tgt := 9) dX3_startIdle_70 (by decide) ?_
        exact ih (x2 + 1) w67 h
noncomputable def x_startIdle (x1 : Int) (w : Wd) : Option (Int × Wd) :=
  (x_startIdle_9 x1 FU 0 (wset w 22 0 0))
theorem mc_x_startIdle {lc : Launch} {D : CX} {ad : Nat → Nat} {w : Wd} {x1 : Int} {v : Int × Wd} (h : x_startIdle x1 w = some v) : Mc lc yX3_startIdle cX3_startIdle 7 none rmX3_startIdle D LAY ad [.ref (ad 0), iv x1] w none v.2 0 0 := by
  refine mc_of (by decide) (Nat.le_of_ble_eq_true rfl) ?_
  intro κ X Z
  show G κ D LAY ad 0 0 w 0 [(0, .ref (ad 0)), (1, iv x1)] []
  unfold x_startIdle at h
  refine g_aload_n X 0 dX3_startIdle_0 rfl rfl ?_
  refine gf_X3_30 X dX3_startIdle_1 ?_
  refine g_iconst X dX3_startIdle_4 ?_
  refine g_lconst X 0 dX3_startIdle_5 (by decide) ?_
  refine g_lastC X 0 (n := 128) (c := 22) (by decide) (by decide) rfl (by decide) dX3_startIdle_6 ?_
  refine g_iconst X dX3_startIdle_7 ?_
  refine g_istore_n X [1, 2, 0] (ls1 := [(0, .ref (ad 0)), (1, iv x1), (2, iv 0)]) dX3_startIdle_8 rfl (by decide) rfl ?_
  refine x_startIdle_9_ok X Z FU 0 (wset w 22 0 0) h

/-! TallShips.weighSets -/
noncomputable def x_weighSets_78 (x1 x2 x3 x4 x5 x6 x7 : Int) (k1 : Wd → Option (Int × Wd)) : Nat → Int → Wd → Option (Int × Wd)
  | 0, _, _ => none
  | n + 1, x9, w =>
    (if wr x5 ≤ wr x9 then
      (k1 w)
    else
      (let j139 := fun (z139_0 : Int) => 
          (let j171 := fun (z171_0 : Int) => 
              (if 0 ≤ (bor x5 x9) ∧ (bor x5 x9) < 128 then
              (x_weighSets_78 x1 x2 x3 x4 x5 x6 x7 k1 n (x9 + 1) (wset w 23 (bor x5 x9).toNat z171_0))
              else none)
          (if wr z139_0 = 0 then
            (j171 (-1))
          else
            (if 0 ≤ x9 ∧ x9 < 128 then
            (j171 ((w 23 x9.toNat) + x7))
            else none)))
      let j138 := fun (_ : Unit) => 
          (j139 0)
      (if wr x6 = 0 then
        (j138 ())
      else
        (if 0 ≤ x9 ∧ x9 < 128 then
        (if wr (bcmp (w 23 x9.toNat) (-1)) = 0 then
          (j138 ())
        else
          (if 0 ≤ x4 ∧ x4 < 7 then
          (if wr (band (w 13 x4.toNat) x9) = 0 then
            (if 0 ≤ (bor x5 x9) ∧ (bor x5 x9) < 128 then
            (if wr x3 < wr (w 24 (bor x5 x9).toNat) then
              (j138 ())
            else
              (j139 1))
            else none)
          else
            (j138 ()))
          else none))
        else none))))
theorem x_weighSets_78_ok {lc : Launch} {κ : KX} {D : CX} {ad : Nat → Nat} {x1 x2 x3 x4 x5 x6 x7 : Int} {k1 : Wd → Option (Int × Wd)} {v : Int × Wd} (X : gX κ D cX3_weighSets RX3 rmX3_weighSets lc 11) (Z : gQ κ D LAY ad none none v.2 0 0) (hk1 : ∀ (w : Wd), k1 w = some v → G κ D LAY ad 0 0 w 178 [(0, .ref (ad 0)), (1, iv x1), (2, iv x2), (3, iv x3), (4, iv x4)] []) : ∀ (n : Nat) (x9 : Int) (w : Wd), x_weighSets_78 x1 x2 x3 x4 x5 x6 x7 k1 n x9 w = some v → G κ D LAY ad 0 0 w 78 [(0, .ref (ad 0)), (1, iv x1), (2, iv x2), (3, iv x3), (4, iv x4), (5, iv x5), (6, iv x6), (7, jv x7), (9, iv x9)] [] := by
  intro n
  induction n with
  | zero =>
    intro x9 w h
    cases h
  | succ n ih =>
    intro x9 w h
    rw [x_weighSets_78] at h
    refine g_iload X 8 dX3_weighSets_78 rfl ?_
    refine g_iload X 5 dX3_weighSets_80 rfl ?_
    refine g_icmp_ge X h dX3_weighSets_82 (tgt := 178) (by decide) (fun h => ?_) (fun h => ?_)
    · refine g_sub [0, 1, 2, 3, 4] rfl ?_
      exact hk1 w h
    · refine g_iload X 6 dX3_weighSets_85 rfl ?_
      let j139 := fun (z139_0 : Int) => ((let j171 := fun (z171_0 : Int) => 
          (if 0 ≤ (bor x5 x9) ∧ (bor x5 x9) < 128 then
          (x_weighSets_78 x1 x2 x3 x4 x5 x6 x7 k1 n (x9 + 1) (wset w 23 (bor x5 x9).toNat z171_0))
          else none)
      (if wr z139_0 = 0 then
        (j171 (-1))
      else
        (if 0 ≤ x9 ∧ x9 < 128 then
        (j171 ((w 23 x9.toNat) + x7))
        else none))))
      have J139 : ∀ (z139_0 : Int), ((let j171 := fun (z171_0 : Int) => 
          (if 0 ≤ (bor x5 x9) ∧ (bor x5 x9) < 128 then
          (x_weighSets_78 x1 x2 x3 x4 x5 x6 x7 k1 n (x9 + 1) (wset w 23 (bor x5 x9).toNat z171_0))
          else none)
      (if wr z139_0 = 0 then
        (j171 (-1))
      else
        (if 0 ≤ x9 ∧ x9 < 128 then
        (j171 ((w 23 x9.toNat) + x7))
        else none)))) = some v → G κ D LAY ad 0 0 w 139 [(0, .ref (ad 0)), (1, iv x1), (2, iv x2), (3, iv x3), (4, iv x4), (5, iv x5), (6, iv x6), (7, jv x7), (9, iv x9)] [iv z139_0] := by
        intro z139_0 h
        refine g_istore X [1, 2, 3, 4, 5, 6, 7, 8, 9, 0] (ls1 := [(0, .ref (ad 0)), (1, iv x1), (2, iv x2), (3, iv x3), (4, iv x4), (5, iv x5), (6, iv x6), (7, jv x7), (9, iv x9), (10, iv z139_0)]) dX3_weighSets_139 (by decide) rfl ?_
        refine g_aload_n X 0 dX3_weighSets_141 rfl rfl ?_
        refine gf_X3_34 X dX3_weighSets_142 ?_
        refine g_iload X 5 dX3_weighSets_145 rfl ?_
        refine g_iload X 8 dX3_weighSets_147 rfl ?_
        refine g_ior X dX3_weighSets_149 ?_
        refine g_iload X 9 dX3_weighSets_150 rfl ?_
        let j171 := fun (z171_0 : Int) => ((if 0 ≤ (bor x5 x9) ∧ (bor x5 x9) < 128 then
        (x_weighSets_78 x1 x2 x3 x4 x5 x6 x7 k1 n (x9 + 1) (wset w 23 (bor x5 x9).toNat z171_0))
        else none))
        have J171 : ∀ (z171_0 : Int), ((if 0 ≤ (bor x5 x9) ∧ (bor x5 x9) < 128 then
        (x_weighSets_78 x1 x2 x3 x4 x5 x6 x7 k1 n (x9 + 1) (wset w 23 (bor x5 x9).toNat z171_0))
        else none)) = some v → G κ D LAY ad 0 0 w 171 [(0, .ref (ad 0)), (1, iv x1), (2, iv x2), (3, iv x3), (4, iv x4), (5, iv x5), (6, iv x6), (7, jv x7), (9, iv x9)] [jv z171_0, iv (bor x5 x9), .ref (ad 23)] := by
          intro z171_0 h
          refine g_last X (n := 128) (c := 23) h rfl (by decide) dX3_weighSets_171 (fun h => ?_)
          refine g_iinc X 8 [1, 2, 3, 4, 5, 6, 7, 8, 0] (ls1 := [(0, .ref (ad 0)), (1, iv x1), (2, iv x2), (3, iv x3), (4, iv x4), (5, iv x5), (6, iv x6), (7, jv x7), (9, iv (x9 + 1))]) dX3_weighSets_172 rfl (by decide) rfl ?_
          refine g_goto X (tgt := 78) dX3_weighSets_175 (by decide) ?_
          exact ih (x9 + 1) (wset w 23 (bor x5 x9).toNat z171_0) h
        refine g_if_eq X h dX3_weighSets_152 (tgt := 168) (by decide) (fun h => ?_) (fun h => ?_)
        · refine g_ldc2 X (-1) dX3_weighSets_168 wk_X3_176 ?_
          refine g_sub [0, 1, 2, 3, 4, 5, 6, 7, 8] rfl ?_
          exact J171 (-1) h
        · refine g_aload_n X 0 dX3_weighSets_155 rfl rfl ?_
          refine gf_X3_34 X dX3_weighSets_156 ?_
          refine g_iload X 8 dX3_weighSets_159 rfl ?_
          refine g_lald X (n := 128) (c := 23) h rfl (by decide) dX3_weighSets_161 (fun h => ?_)
          refine g_lload X 7 dX3_weighSets_162 rfl ?_
          refine g_ladd X dX3_weighSets_164 ?_
          refine g_goto X (tgt := 171) dX3_weighSets_165 (by decide) ?_
          refine g_sub [0, 1, 2, 3, 4, 5, 6, 7, 8] rfl ?_
          exact J171 ((w 23 x9.toNat) + x7) h
      let j138 := fun (_ : Unit) => ((j139 0))
      have J138 : ∀ (_u : Unit), ((j139 0)) = some v → G κ D LAY ad 0 0 w 138 [(0, .ref (ad 0)), (1, iv x1), (2, iv x2), (3, iv x3), (4, iv x4), (5, iv x5), (6, iv x6), (7, jv x7), (9, iv x9)] [] := by
        intro _u h
        refine g_iconst X dX3_weighSets_138 ?_
        exact J139 0 h
      refine g_if_eq X h dX3_weighSets_87 (tgt := 138) (by decide) (fun h => ?_) (fun h => ?_)
      · exact J138 () h
      · refine g_aload_n X 0 dX3_weighSets_90 rfl rfl ?_
        refine gf_X3_34 X dX3_weighSets_91 ?_
        refine g_iload X 8 dX3_weighSets_94 rfl ?_
        refine g_lald X (n := 128) (c := 23) h rfl (by decide) dX3_weighSets_96 (fun h => ?_)
        refine g_ldc2 X (-1) dX3_weighSets_97 wk_X3_176 ?_
        refine g_lcmp X dX3_weighSets_100 ?_
        refine g_if_eq X h dX3_weighSets_101 (tgt := 138) (by decide) (fun h => ?_) (fun h => ?_)
        · exact J138 () h
        · refine g_aload_n X 0 dX3_weighSets_104 rfl rfl ?_
          refine gf_X3_19 X dX3_weighSets_105 ?_
          refine gf_X3_111 X dX3_weighSets_108 ?_
          refine g_iload X 4 dX3_weighSets_111 rfl ?_
          refine g_iald X (n := 7) (c := 13) h rfl (by decide) dX3_weighSets_113 (fun h => ?_)
          refine g_iload X 8 dX3_weighSets_114 rfl ?_
          refine g_iand X dX3_weighSets_116 ?_
          refine g_if_ne X h dX3_weighSets_117 (tgt := 138) (by decide) (fun h => ?_) (fun h => ?_)
          · exact J138 () h
          · refine g_aload_n X 0 dX3_weighSets_120 rfl rfl ?_
            refine gf_X3_37 X dX3_weighSets_121 ?_
            refine g_iload X 5 dX3_weighSets_124 rfl ?_
            refine g_iload X 8 dX3_weighSets_126 rfl ?_
            refine g_ior X dX3_weighSets_128 ?_
            refine g_iald X (n := 128) (c := 24) h rfl (by decide) dX3_weighSets_129 (fun h => ?_)
            refine g_iload_n X 3 dX3_weighSets_130 rfl rfl ?_
            refine g_icmp_gt X h dX3_weighSets_131 (tgt := 138) (by decide) (fun h => ?_) (fun h => ?_)
            · exact J138 () h
            · refine g_iconst X dX3_weighSets_134 ?_
              refine g_goto X (tgt := 139) dX3_weighSets_135 (by decide) ?_
              exact J139 1 h
noncomputable def x_weighSets_30 (x1 x2 x3 : Int) : Nat → Int → Wd → Option (Int × Wd)
  | 0, _, _ => none
  | n + 1, x4, w =>
    (if wr (w 5 0) ≤ wr x4 then
      some (0, w)
    else
      ((x_hindrance x4 x1 w).bind fun q52 =>
      (let j63 := fun (z63_0 : Int) => 
          ((x_berthCost x4 x1 x2 q52.2).bind fun q70 =>
          (x_weighSets_78 x1 x2 x3 x4 (bshl 1 x4) z63_0 q70.1 (fun (w178 : Wd) =>
            (x_weighSets_30 x1 x2 x3 n (x4 + 1) w178)) FU 0 q70.2))
      (if wr q52.1 = 0 then
        (j63 1)
      else
        (j63 0)))))
theorem x_weighSets_30_ok {lc : Launch} {κ : KX} {D : CX} {ad : Nat → Nat} {x1 x2 x3 : Int} {v : Int × Wd} (X : gX κ D cX3_weighSets RX3 rmX3_weighSets lc 11) (Z : gQ κ D LAY ad none none v.2 0 0) : ∀ (n : Nat) (x4 : Int) (w : Wd), x_weighSets_30 x1 x2 x3 n x4 w = some v → G κ D LAY ad 0 0 w 30 [(0, .ref (ad 0)), (1, iv x1), (2, iv x2), (3, iv x3), (4, iv x4)] [] := by
  intro n
  induction n with
  | zero =>
    intro x4 w h
    cases h
  | succ n ih =>
    intro x4 w h
    rw [x_weighSets_30] at h
    refine g_iload X 4 dX3_weighSets_30 rfl ?_
    refine g_aload_n X 0 dX3_weighSets_32 rfl rfl ?_
    refine gf_X3_19 X dX3_weighSets_33 ?_
    refine gf_X3_68 X dX3_weighSets_36 ?_
    refine g_icmp_ge X h dX3_weighSets_39 (tgt := 184) (by decide) (fun h => ?_) (fun h => ?_)
    · exact g_vret X Z h dX3_weighSets_184
    · refine g_iconst X dX3_weighSets_42 ?_
      refine g_iload X 4 dX3_weighSets_43 rfl ?_
      refine g_ishl X dX3_weighSets_45 ?_
      refine g_istore X [1, 2, 3, 4, 5, 0] (ls1 := [(0, .ref (ad 0)), (1, iv x1), (2, iv x2), (3, iv x3), (4, iv x4), (5, iv (bshl 1 x4))]) dX3_weighSets_46 (by decide) rfl ?_
      refine g_aload_n X 0 dX3_weighSets_48 rfl rfl ?_
      refine g_iload X 4 dX3_weighSets_49 rfl ?_
      refine g_iload_n X 1 dX3_weighSets_51 rfl rfl ?_
      obtain ⟨q52, e52, h⟩ := bindE h
      refine g_callVi X (st := []) 0 [iv x4, iv x1] (mc_x_hindrance e52) cal_X3_hindrance rfl rfl wm_X3_138 (by decide) rfl rfl ⟨by decide, by decide⟩ rfl (Nat.le_of_ble_eq_true rfl) dX3_weighSets_52 ?_
      let j63 := fun (z63_0 : Int) => (((x_berthCost x4 x1 x2 q52.2).bind fun q70 =>
      (x_weighSets_78 x1 x2 x3 x4 (bshl 1 x4) z63_0 q70.1 (fun (w178 : Wd) =>
        (x_weighSets_30 x1 x2 x3 n (x4 + 1) w178)) FU 0 q70.2)))
      have J63 : ∀ (z63_0 : Int), (((x_berthCost x4 x1 x2 q52.2).bind fun q70 =>
      (x_weighSets_78 x1 x2 x3 x4 (bshl 1 x4) z63_0 q70.1 (fun (w178 : Wd) =>
        (x_weighSets_30 x1 x2 x3 n (x4 + 1) w178)) FU 0 q70.2))) = some v → G κ D LAY ad 0 0 q52.2 63 [(0, .ref (ad 0)), (1, iv x1), (2, iv x2), (3, iv x3), (4, iv x4), (5, iv (bshl 1 x4))] [iv z63_0] := by
        intro z63_0 h
        refine g_istore X [1, 2, 3, 4, 5, 6, 0] (ls1 := [(0, .ref (ad 0)), (1, iv x1), (2, iv x2), (3, iv x3), (4, iv x4), (5, iv (bshl 1 x4)), (6, iv z63_0)]) dX3_weighSets_63 (by decide) rfl ?_
        refine g_aload_n X 0 dX3_weighSets_65 rfl rfl ?_
        refine g_iload X 4 dX3_weighSets_66 rfl ?_
        refine g_iload_n X 1 dX3_weighSets_68 rfl rfl ?_
        refine g_iload_n X 2 dX3_weighSets_69 rfl rfl ?_
        obtain ⟨q70, e70, h⟩ := bindE h
        refine g_callVl X (st := []) 0 [iv x4, iv x1, iv x2] (mc_x_berthCost e70) cal_X3_berthCost rfl rfl wm_X3_244 (by decide) rfl rfl ⟨by decide, by decide⟩ rfl (Nat.le_of_ble_eq_true rfl) dX3_weighSets_70 ?_
        refine g_lstore X [1, 2, 3, 4, 5, 6, 7, 0] (ls1 := [(0, .ref (ad 0)), (1, iv x1), (2, iv x2), (3, iv x3), (4, iv x4), (5, iv (bshl 1 x4)), (6, iv z63_0), (7, jv q70.1)]) dX3_weighSets_73 (by decide) rfl ?_
        refine g_iconst X dX3_weighSets_75 ?_
        refine g_istore X [1, 2, 3, 4, 5, 6, 7, 8, 0] (ls1 := [(0, .ref (ad 0)), (1, iv x1), (2, iv x2), (3, iv x3), (4, iv x4), (5, iv (bshl 1 x4)), (6, iv z63_0), (7, jv q70.1), (9, iv 0)]) dX3_weighSets_76 (by decide) rfl ?_
        refine x_weighSets_78_ok X Z ?_ FU 0 q70.2 h
        · intro w178 h
          refine g_iinc X 4 [1, 2, 3, 4, 0] (ls1 := [(0, .ref (ad 0)), (1, iv x1), (2, iv x2), (3, iv x3), (4, iv (x4 + 1))]) dX3_weighSets_178 rfl (by decide) rfl ?_
          refine g_goto X (tgt := 30) dX3_weighSets_181 (by decide) ?_
          exact ih (x4 + 1) w178 h
      refine g_if_ne X h dX3_weighSets_55 (tgt := 62) (by decide) (fun h => ?_) (fun h => ?_)
      · refine g_iconst X dX3_weighSets_62 ?_
        exact J63 0 h
      · refine g_iconst X dX3_weighSets_58 ?_
        refine g_goto X (tgt := 63) dX3_weighSets_59 (by decide) ?_
        exact J63 1 h
noncomputable def x_weighSets (x1 x2 : Int) (w : Wd) : Option (Int × Wd) :=
  (if 0 ≤ x1 ∧ x1 < 4 then
  (x_weighSets_30 x1 x2 ((w 17 x1.toNat) + (w 4 3)) FU 0 (wset w 23 0 0))
  else none)
theorem mc_x_weighSets {lc : Launch} {D : CX} {ad : Nat → Nat} {w : Wd} {x1 x2 : Int} {v : Int × Wd} (h : x_weighSets x1 x2 w = some v) : Mc lc yX3_weighSets cX3_weighSets 11 none rmX3_weighSets D LAY ad [.ref (ad 0), iv x1, iv x2] w none v.2 0 0 := by
  refine mc_of (by decide) (Nat.le_of_ble_eq_true rfl) ?_
  intro κ X Z
  show G κ D LAY ad 0 0 w 0 [(0, .ref (ad 0)), (1, iv x1), (2, iv x2)] []
  unfold x_weighSets at h
  refine g_aload_n X 0 dX3_weighSets_0 rfl rfl ?_
  refine gf_X3_26 X dX3_weighSets_1 ?_
  refine gf_X3_94 X dX3_weighSets_4 ?_
  refine g_iload_n X 1 dX3_weighSets_7 rfl rfl ?_
  refine g_iald X (n := 4) (c := 17) h rfl (by decide) dX3_weighSets_8 (fun h => ?_)
  refine g_aload_n X 0 dX3_weighSets_9 rfl rfl ?_
  refine gf_X3_12 X dX3_weighSets_10 ?_
  refine gf_X3_54 X dX3_weighSets_13 ?_
  refine g_iconst X dX3_weighSets_16 ?_
  refine g_ialdC X 3 (n := 5) (c := 4) (by decide) (by decide) rfl (by decide) dX3_weighSets_17 ?_
  refine g_iadd X dX3_weighSets_18 ?_
  refine g_istore_n X [1, 2, 3, 0] (ls1 := [(0, .ref (ad 0)), (1, iv x1), (2, iv x2), (3, iv ((w 17 x1.toNat) + (w 4 3)))]) dX3_weighSets_19 rfl (by decide) rfl ?_
  refine g_aload_n X 0 dX3_weighSets_20 rfl rfl ?_
  refine gf_X3_34 X dX3_weighSets_21 ?_
  refine g_iconst X dX3_weighSets_24 ?_
  refine g_lconst X 0 dX3_weighSets_25 (by decide) ?_
  refine g_lastC X 0 (n := 128) (c := 23) (by decide) (by decide) rfl (by decide) dX3_weighSets_26 ?_
  refine g_iconst X dX3_weighSets_27 ?_
  refine g_istore X [1, 2, 3, 4, 0] (ls1 := [(0, .ref (ad 0)), (1, iv x1), (2, iv x2), (3, iv ((w 17 x1.toNat) + (w 4 3))), (4, iv 0)]) dX3_weighSets_28 (by decide) rfl ?_
  refine x_weighSets_30_ok X Z FU 0 (wset w 23 0 0) h

/-! TallShips.leastBerths -/
noncomputable def x_leastBerths_11 (x1 : Int) (k1 : Wd → Option (Int × Wd)) : Nat → Int → Wd → Option (Int × Wd)
  | 0, _, _ => none
  | n + 1, x2, w =>
    (if wr (w 16 0) ≤ wr x2 then
      (k1 w)
    else
      ((x_weighSets x2 x1 w).bind fun q25 =>
      ((x_offerQuay q25.2).bind fun q29 =>
      (x_leastBerths_11 x1 k1 n (x2 + 1) q29.2))))
theorem x_leastBerths_11_ok {lc : Launch} {κ : KX} {D : CX} {ad : Nat → Nat} {x1 : Int} {k1 : Wd → Option (Int × Wd)} {v : Int × Wd} (X : gX κ D cX3_leastBerths RX3 rmX3_leastBerths lc 3) (Z : gQ κ D LAY ad (some .long) (some (jv v.1)) v.2 0 0) (hk1 : ∀ (w : Wd), k1 w = some v → G κ D LAY ad 0 0 w 38 [(0, .ref (ad 0))] []) : ∀ (n : Nat) (x2 : Int) (w : Wd), x_leastBerths_11 x1 k1 n x2 w = some v → G κ D LAY ad 0 0 w 11 [(0, .ref (ad 0)), (1, iv x1), (2, iv x2)] [] := by
  intro n
  induction n with
  | zero =>
    intro x2 w h
    cases h
  | succ n ih =>
    intro x2 w h
    rw [x_leastBerths_11] at h
    refine g_iload_n X 2 dX3_leastBerths_11 rfl rfl ?_
    refine g_aload_n X 0 dX3_leastBerths_12 rfl rfl ?_
    refine gf_X3_26 X dX3_leastBerths_13 ?_
    refine gf_X3_93 X dX3_leastBerths_16 ?_
    refine g_icmp_ge X h dX3_leastBerths_19 (tgt := 38) (by decide) (fun h => ?_) (fun h => ?_)
    · refine g_sub [0] rfl ?_
      exact hk1 w h
    · refine g_aload_n X 0 dX3_leastBerths_22 rfl rfl ?_
      refine g_iload_n X 2 dX3_leastBerths_23 rfl rfl ?_
      refine g_iload_n X 1 dX3_leastBerths_24 rfl rfl ?_
      obtain ⟨q25, e25, h⟩ := bindE h
      refine g_callVv X (st := []) 0 [iv x2, iv x1] (mc_x_weighSets e25) cal_X3_weighSets rfl rfl wm_X3_234 (by decide) rfl rfl ⟨by decide, by decide⟩ rfl (Nat.le_of_ble_eq_true rfl) dX3_leastBerths_25 ?_
      refine g_aload_n X 0 dX3_leastBerths_28 rfl rfl ?_
      obtain ⟨q29, e29, h⟩ := bindE h
      refine g_callVv X (st := []) 0 [] (mc_x_offerQuay e29) cal_X3_offerQuay rfl rfl wm_X3_238 (by decide) rfl rfl ⟨by decide, by decide⟩ rfl (Nat.le_of_ble_eq_true rfl) dX3_leastBerths_29 ?_
      refine g_iinc X 2 [1, 2, 0] (ls1 := [(0, .ref (ad 0)), (1, iv x1), (2, iv (x2 + 1))]) dX3_leastBerths_32 rfl (by decide) rfl ?_
      refine g_goto X (tgt := 11) dX3_leastBerths_35 (by decide) ?_
      exact ih (x2 + 1) q29.2 h
noncomputable def x_leastBerths (x1 : Int) (w : Wd) : Option (Int × Wd) :=
  ((x_startIdle x1 w).bind fun q2 =>
  ((x_measureSpans q2.2).bind fun q6 =>
  (x_leastBerths_11 x1 (fun (w38 : Wd) =>
    ((fl_all w38).bind fun q46 =>
    (if 0 ≤ q46.1 ∧ q46.1 < 128 then
    some ((q46.2 22 q46.1.toNat), q46.2)
    else none))) FU 0 q6.2)))
theorem mc_x_leastBerths {lc : Launch} {D : CX} {ad : Nat → Nat} {w : Wd} {x1 : Int} {v : Int × Wd} (h : x_leastBerths x1 w = some v) : Mc lc yX3_leastBerths cX3_leastBerths 3 (some .long) rmX3_leastBerths D LAY ad [.ref (ad 0), iv x1] w (some (jv v.1)) v.2 0 0 := by
  refine mc_of (by decide) (Nat.le_of_ble_eq_true rfl) ?_
  intro κ X Z
  show G κ D LAY ad 0 0 w 0 [(0, .ref (ad 0)), (1, iv x1)] []
  unfold x_leastBerths at h
  refine g_aload_n X 0 dX3_leastBerths_0 rfl rfl ?_
  refine g_iload_n X 1 dX3_leastBerths_1 rfl rfl ?_
  obtain ⟨q2, e2, h⟩ := bindE h
  refine g_callVv X (st := []) 0 [iv x1] (mc_x_startIdle e2) cal_X3_startIdle rfl rfl wm_X3_227 (by decide) rfl rfl ⟨by decide, by decide⟩ rfl (Nat.le_of_ble_eq_true rfl) dX3_leastBerths_2 ?_
  refine g_aload_n X 0 dX3_leastBerths_5 rfl rfl ?_
  obtain ⟨q6, e6, h⟩ := bindE h
  refine g_callVv X (st := []) 0 [] (mc_x_measureSpans e6) cal_X3_measureSpans rfl rfl wm_X3_231 (by decide) rfl rfl ⟨by decide, by decide⟩ rfl (Nat.le_of_ble_eq_true rfl) dX3_leastBerths_6 ?_
  refine g_iconst X dX3_leastBerths_9 ?_
  refine g_istore_n X [1, 2, 0] (ls1 := [(0, .ref (ad 0)), (1, iv x1), (2, iv 0)]) dX3_leastBerths_10 rfl (by decide) rfl ?_
  refine x_leastBerths_11_ok X Z ?_ FU 0 q6.2 h
  · intro w38 h
    refine g_aload_n X 0 dX3_leastBerths_38 rfl rfl ?_
    refine gf_X3_30 X dX3_leastBerths_39 ?_
    refine g_aload_n X 0 dX3_leastBerths_42 rfl rfl ?_
    refine gf_X3_19 X dX3_leastBerths_43 ?_
    obtain ⟨q46, e46, h⟩ := bindE h
    refine g_callVi X (st := [.ref (ad 22)]) 5 [] (mc_fl_all e46) cal_X0_all rfl rfl wm_X3_241 (by decide) rfl rfl ⟨by decide, by decide⟩ rfl (Nat.le_of_ble_eq_true rfl) dX3_leastBerths_46 ?_
    refine g_lald X (n := 128) (c := 22) h rfl (by decide) dX3_leastBerths_49 (fun h => ?_)
    exact g_lret X Z h dX3_leastBerths_50

/-! TallShips.best -/
noncomputable def x_best (w : Wd) : Option (Int × Wd) :=
  ((x_leastBerths 0 w).bind fun q3 =>
  ((x_berthAll q3.1 q3.2).bind fun q6 =>
  ((fl_berthed q6.2).bind fun q14 =>
  ((ji_bitCount q14.1 q14.2).bind fun q17 =>
  some (q17.1, q17.2)))))
theorem mc_x_best {lc : Launch} {D : CX} {ad : Nat → Nat} {w : Wd} {v : Int × Wd} (h : x_best w = some v) : Mc lc yX3_best cX3_best 1 (some .int) rmX3_best D LAY ad [.ref (ad 0)] w (some (iv v.1)) v.2 0 0 := by
  refine mc_of (by decide) (Nat.le_of_ble_eq_true rfl) ?_
  intro κ X Z
  show G κ D LAY ad 0 0 w 0 [(0, .ref (ad 0))] []
  unfold x_best at h
  refine g_aload_n X 0 dX3_best_0 rfl rfl ?_
  refine g_aload_n X 0 dX3_best_1 rfl rfl ?_
  refine g_iconst X dX3_best_2 ?_
  obtain ⟨q3, e3, h⟩ := bindE h
  refine g_callVl X (st := [.ref (ad 0)]) 0 [iv 0] (mc_x_leastBerths e3) cal_X3_leastBerths rfl rfl wm_X3_161 (by decide) rfl rfl ⟨by decide, by decide⟩ rfl (Nat.le_of_ble_eq_true rfl) dX3_best_3 ?_
  obtain ⟨q6, e6, h⟩ := bindE h
  refine g_callVi X (st := []) 0 [jv q3.1] (mc_x_berthAll e6) cal_X3_berthAll rfl rfl wm_X3_165 (by decide) rfl rfl ⟨by decide, by decide⟩ rfl (Nat.le_of_ble_eq_true rfl) dX3_best_6 ?_
  refine g_pop X dX3_best_9 rfl ?_
  refine g_aload_n X 0 dX3_best_10 rfl rfl ?_
  refine gf_X3_19 X dX3_best_11 ?_
  obtain ⟨q14, e14, h⟩ := bindE h
  refine g_callVi X (st := []) 5 [] (mc_fl_berthed e14) cal_X0_berthed rfl rfl wm_X3_114 (by decide) rfl rfl ⟨by decide, by decide⟩ rfl (Nat.le_of_ble_eq_true rfl) dX3_best_14 ?_
  obtain ⟨q17, e17, h⟩ := bindE h
  refine g_callSi X (st := []) [iv q14.1] (mc_ji_bitCount e17) cal_J6_bitCount_0f7a4 wm_X3_118 (by decide) rfl rfl ⟨by decide, by decide⟩ rfl (Nat.le_of_ble_eq_true rfl) dX3_best_17 ?_
  exact g_iret X Z h dX3_best_20

/-! TallShips.mend -/
noncomputable def x_mend (w : Wd) : Option (Int × Wd) :=
  ((x_leastBerths 1 w).bind fun q3 =>
  ((x_berthAll q3.1 q3.2).bind fun q6 =>
  some (q6.1, q6.2)))
theorem mc_x_mend {lc : Launch} {D : CX} {ad : Nat → Nat} {w : Wd} {v : Int × Wd} (h : x_mend w = some v) : Mc lc yX3_mend cX3_mend 1 (some .int) rmX3_mend D LAY ad [.ref (ad 0)] w (some (iv v.1)) v.2 0 0 := by
  refine mc_of (by decide) (Nat.le_of_ble_eq_true rfl) ?_
  intro κ X Z
  show G κ D LAY ad 0 0 w 0 [(0, .ref (ad 0))] []
  unfold x_mend at h
  refine g_aload_n X 0 dX3_mend_0 rfl rfl ?_
  refine g_aload_n X 0 dX3_mend_1 rfl rfl ?_
  refine g_iconst X dX3_mend_2 ?_
  obtain ⟨q3, e3, h⟩ := bindE h
  refine g_callVl X (st := [.ref (ad 0)]) 0 [iv 1] (mc_x_leastBerths e3) cal_X3_leastBerths rfl rfl wm_X3_161 (by decide) rfl rfl ⟨by decide, by decide⟩ rfl (Nat.le_of_ble_eq_true rfl) dX3_mend_3 ?_
  obtain ⟨q6, e6, h⟩ := bindE h
  refine g_callVi X (st := []) 0 [jv q3.1] (mc_x_berthAll e6) cal_X3_berthAll rfl rfl wm_X3_165 (by decide) rfl rfl ⟨by decide, by decide⟩ rfl (Nat.le_of_ble_eq_true rfl) dX3_mend_6 ?_
  exact g_iret X Z h dX3_mend_9

/-! TallShips.left -/
noncomputable def x_left (x1 : Int) (w : Wd) : Option (Int × Wd) :=
  ((qy_has x1 w).bind fun q5 =>
  (if wr q5.1 = 0 then
    some ((-9999), q5.2)
  else
    ((x_roomLeft x1 q5.2).bind fun q17 =>
    some (q17.1, q17.2))))
theorem mc_x_left {lc : Launch} {D : CX} {ad : Nat → Nat} {w : Wd} {x1 : Int} {v : Int × Wd} (h : x_left x1 w = some v) : Mc lc yX3_left cX3_left 2 (some .int) rmX3_left D LAY ad [.ref (ad 0), iv x1] w (some (iv v.1)) v.2 0 0 := by
  refine mc_of (by decide) (Nat.le_of_ble_eq_true rfl) ?_
  intro κ X Z
  show G κ D LAY ad 0 0 w 0 [(0, .ref (ad 0)), (1, iv x1)] []
  unfold x_left at h
  refine g_aload_n X 0 dX3_left_0 rfl rfl ?_
  refine gf_X3_26 X dX3_left_1 ?_
  refine g_iload_n X 1 dX3_left_4 rfl rfl ?_
  obtain ⟨q5, e5, h⟩ := bindE h
  refine g_callVi X (st := []) 16 [iv x1] (mc_qy_has e5) cal_X1_has rfl rfl wm_X3_137 (by decide) rfl rfl ⟨by decide, by decide⟩ rfl (Nat.le_of_ble_eq_true rfl) dX3_left_5 ?_
  refine g_if_ne X h dX3_left_8 (tgt := 15) (by decide) (fun h => ?_) (fun h => ?_)
  · refine g_aload_n X 0 dX3_left_15 rfl rfl ?_
    refine g_iload_n X 1 dX3_left_16 rfl rfl ?_
    obtain ⟨q17, e17, h⟩ := bindE h
    refine g_callVi X (st := []) 0 [iv x1] (mc_x_roomLeft e17) cal_X3_roomLeft rfl rfl wm_X3_169 (by decide) rfl rfl ⟨by decide, by decide⟩ rfl (Nat.le_of_ble_eq_true rfl) dX3_left_17 ?_
    exact g_iret X Z h dX3_left_20
  · refine g_sipush X (-9999) dX3_left_11 (by decide) ?_
    exact g_iret X Z h dX3_left_14

/-! TallShips.keepPlan -/
noncomputable def x_keepPlan_3 (x1 x2 : Int) : Nat → Int → Wd → Option (Int × Wd)
  | 0, _, _ => none
  | n + 1, x4, w =>
    (if wr (w 5 0) ≤ wr x4 then
      some (0, w)
    else
      (let j29 := fun (z29_0 : Int) => 
          (let j57 := fun (z57_0 : Int) (w57 : Wd) => 
              (if 0 ≤ x4 ∧ x4 < 7 then
              (x_keepPlan_3 x1 x2 n (x4 + 1) (wset w57 15 x4.toNat z57_0))
              else none)
          (if wr z29_0 = 0 then
            (j57 (-1) w)
          else
            ((x_lowChoice x2 x4 7 w).bind fun q50 =>
            (j57 q50.1 q50.2))))
      (if wr (band x1 (bshl 1 x4)) = 0 then
        (j29 0)
      else
        (j29 1))))
theorem x_keepPlan_3_ok {lc : Launch} {κ : KX} {D : CX} {ad : Nat → Nat} {x1 x2 : Int} {v : Int × Wd} (X : gX κ D cX3_keepPlan RX3 rmX3_keepPlan lc 6) (Z : gQ κ D LAY ad none none v.2 0 0) : ∀ (n : Nat) (x4 : Int) (w : Wd), x_keepPlan_3 x1 x2 n x4 w = some v → G κ D LAY ad 0 0 w 3 [(0, .ref (ad 0)), (1, iv x1), (2, jv x2), (4, iv x4)] [] := by
  intro n
  induction n with
  | zero =>
    intro x4 w h
    cases h
  | succ n ih =>
    intro x4 w h
    rw [x_keepPlan_3] at h
    refine g_iload X 3 dX3_keepPlan_3 rfl ?_
    refine g_aload_n X 0 dX3_keepPlan_5 rfl rfl ?_
    refine gf_X3_19 X dX3_keepPlan_6 ?_
    refine gf_X3_68 X dX3_keepPlan_9 ?_
    refine g_icmp_ge X h dX3_keepPlan_12 (tgt := 64) (by decide) (fun h => ?_) (fun h => ?_)
    · exact g_vret X Z h dX3_keepPlan_64
    · refine g_iload_n X 1 dX3_keepPlan_15 rfl rfl ?_
      refine g_iconst X dX3_keepPlan_16 ?_
      refine g_iload X 3 dX3_keepPlan_17 rfl ?_
      refine g_ishl X dX3_keepPlan_19 ?_
      refine g_iand X dX3_keepPlan_20 ?_
      let j29 := fun (z29_0 : Int) => ((let j57 := fun (z57_0 : Int) (w57 : Wd) => 
          (if 0 ≤ x4 ∧ x4 < 7 then
          (x_keepPlan_3 x1 x2 n (x4 + 1) (wset w57 15 x4.toNat z57_0))
          else none)
      (if wr z29_0 = 0 then
        (j57 (-1) w)
      else
        ((x_lowChoice x2 x4 7 w).bind fun q50 =>
        (j57 q50.1 q50.2)))))
      have J29 : ∀ (z29_0 : Int), ((let j57 := fun (z57_0 : Int) (w57 : Wd) => 
          (if 0 ≤ x4 ∧ x4 < 7 then
          (x_keepPlan_3 x1 x2 n (x4 + 1) (wset w57 15 x4.toNat z57_0))
          else none)
      (if wr z29_0 = 0 then
        (j57 (-1) w)
      else
        ((x_lowChoice x2 x4 7 w).bind fun q50 =>
        (j57 q50.1 q50.2))))) = some v → G κ D LAY ad 0 0 w 29 [(0, .ref (ad 0)), (1, iv x1), (2, jv x2), (4, iv x4)] [iv z29_0] := by
        intro z29_0 h
        refine g_istore X [1, 2, 3, 4, 0] (ls1 := [(0, .ref (ad 0)), (1, iv x1), (2, jv x2), (4, iv x4), (5, iv z29_0)]) dX3_keepPlan_29 (by decide) rfl ?_
        refine g_aload_n X 0 dX3_keepPlan_31 rfl rfl ?_
        refine gf_X3_19 X dX3_keepPlan_32 ?_
        refine gf_X3_182 X dX3_keepPlan_35 ?_
        refine g_iload X 3 dX3_keepPlan_38 rfl ?_
        refine g_iload X 4 dX3_keepPlan_40 rfl ?_
        let j57 := fun (z57_0 : Int) (w57 : Wd) => ((if 0 ≤ x4 ∧ x4 < 7 then
        (x_keepPlan_3 x1 x2 n (x4 + 1) (wset w57 15 x4.toNat z57_0))
        else none))
        have J57 : ∀ (z57_0 : Int) (w57 : Wd), ((if 0 ≤ x4 ∧ x4 < 7 then
        (x_keepPlan_3 x1 x2 n (x4 + 1) (wset w57 15 x4.toNat z57_0))
        else none)) = some v → G κ D LAY ad 0 0 w57 57 [(0, .ref (ad 0)), (1, iv x1), (2, jv x2), (4, iv x4)] [iv z57_0, iv x4, .ref (ad 15)] := by
          intro z57_0 w57 h
          refine g_iast X (n := 7) (c := 15) h rfl (by decide) dX3_keepPlan_57 (fun h => ?_)
          refine g_iinc X 3 [1, 2, 3, 0] (ls1 := [(0, .ref (ad 0)), (1, iv x1), (2, jv x2), (4, iv (x4 + 1))]) dX3_keepPlan_58 rfl (by decide) rfl ?_
          refine g_goto X (tgt := 3) dX3_keepPlan_61 (by decide) ?_
          exact ih (x4 + 1) (wset w57 15 x4.toNat z57_0) h
        refine g_if_eq X h dX3_keepPlan_42 (tgt := 56) (by decide) (fun h => ?_) (fun h => ?_)
        · refine g_iconst X dX3_keepPlan_56 ?_
          refine g_sub [0, 1, 2, 3] rfl ?_
          exact J57 (-1) w h
        · refine g_lload_n X 2 dX3_keepPlan_45 rfl rfl ?_
          refine g_iload X 3 dX3_keepPlan_46 rfl ?_
          refine g_bipush X 7 dX3_keepPlan_48 (by decide) ?_
          obtain ⟨q50, e50, h⟩ := bindE h
          refine g_callSi X (st := [iv x4, .ref (ad 15)]) [jv x2, iv x4, iv 7] (mc_x_lowChoice e50) cal_X3_lowChoice wm_X3_257 (by decide) rfl rfl ⟨by decide, by decide⟩ rfl (Nat.le_of_ble_eq_true rfl) dX3_keepPlan_50 ?_
          refine g_goto X (tgt := 57) dX3_keepPlan_53 (by decide) ?_
          refine g_sub [0, 1, 2, 3] rfl ?_
          exact J57 q50.1 q50.2 h
      refine g_if_eq X h dX3_keepPlan_21 (tgt := 28) (by decide) (fun h => ?_) (fun h => ?_)
      · refine g_iconst X dX3_keepPlan_28 ?_
        exact J29 0 h
      · refine g_iconst X dX3_keepPlan_24 ?_
        refine g_goto X (tgt := 29) dX3_keepPlan_25 (by decide) ?_
        exact J29 1 h
noncomputable def x_keepPlan (x1 x2 : Int) (w : Wd) : Option (Int × Wd) :=
  (x_keepPlan_3 x1 x2 FU 0 w)
theorem mc_x_keepPlan {lc : Launch} {D : CX} {ad : Nat → Nat} {w : Wd} {x1 x2 : Int} {v : Int × Wd} (h : x_keepPlan x1 x2 w = some v) : Mc lc yX3_keepPlan cX3_keepPlan 6 none rmX3_keepPlan D LAY ad [.ref (ad 0), iv x1, jv x2] w none v.2 0 0 := by
  refine mc_of (by decide) (Nat.le_of_ble_eq_true rfl) ?_
  intro κ X Z
  show G κ D LAY ad 0 0 w 0 [(0, .ref (ad 0)), (1, iv x1), (2, jv x2)] []
  unfold x_keepPlan at h
  refine g_iconst X dX3_keepPlan_0 ?_
  refine g_istore X [1, 2, 3, 0] (ls1 := [(0, .ref (ad 0)), (1, iv x1), (2, jv x2), (4, iv 0)]) dX3_keepPlan_1 (by decide) rfl ?_
  refine x_keepPlan_3_ok X Z FU 0 w h

/-! TallShips.hourCost -/
noncomputable def x_hourCost (x1 x2 : Int) (w : Wd) : Option (Int × Wd) :=
  (if 0 ≤ x1 ∧ x1 < 7 then
  ((x_lowShift x1 7 w).bind fun q22 =>
  some (((lshl (wr (x2 - (w 11 x1.toNat))) 49) + (lshl (wr x2) q22.1)), q22.2))
  else none)
theorem mc_x_hourCost {lc : Launch} {D : CX} {ad : Nat → Nat} {w : Wd} {x1 x2 : Int} {v : Int × Wd} (h : x_hourCost x1 x2 w = some v) : Mc lc yX3_hourCost cX3_hourCost 5 (some .long) rmX3_hourCost D LAY ad [.ref (ad 0), iv x1, iv x2] w (some (jv v.1)) v.2 0 0 := by
  refine mc_of (by decide) (Nat.le_of_ble_eq_true rfl) ?_
  intro κ X Z
  show G κ D LAY ad 0 0 w 0 [(0, .ref (ad 0)), (1, iv x1), (2, iv x2)] []
  unfold x_hourCost at h
  refine g_iload_n X 2 dX3_hourCost_0 rfl rfl ?_
  refine g_aload_n X 0 dX3_hourCost_1 rfl rfl ?_
  refine gf_X3_19 X dX3_hourCost_2 ?_
  refine gf_X3_87 X dX3_hourCost_5 ?_
  refine g_iload_n X 1 dX3_hourCost_8 rfl rfl ?_
  refine g_iald X (n := 7) (c := 11) h rfl (by decide) dX3_hourCost_9 (fun h => ?_)
  refine g_isub X dX3_hourCost_10 ?_
  refine g_i2l X dX3_hourCost_11 ?_
  refine g_lstore_n X [1, 2, 3, 0] (ls1 := [(0, .ref (ad 0)), (1, iv x1), (2, iv x2), (3, jv (wr (x2 - (w 11 x1.toNat))))]) dX3_hourCost_12 rfl (by decide) rfl ?_
  refine g_lload_n X 3 dX3_hourCost_13 rfl rfl ?_
  refine g_bipush X 49 dX3_hourCost_14 (by decide) ?_
  refine g_lshl X dX3_hourCost_16 ?_
  refine g_iload_n X 2 dX3_hourCost_17 rfl rfl ?_
  refine g_i2l X dX3_hourCost_18 ?_
  refine g_iload_n X 1 dX3_hourCost_19 rfl rfl ?_
  refine g_bipush X 7 dX3_hourCost_20 (by decide) ?_
  obtain ⟨q22, e22, h⟩ := bindE h
  refine g_callSi X (st := [jv (wr x2), jv (lshl (wr (x2 - (w 11 x1.toNat))) 49)]) [iv x1, iv 7] (mc_x_lowShift e22) cal_X3_lowShift wm_X3_254 (by decide) rfl rfl ⟨by decide, by decide⟩ rfl (Nat.le_of_ble_eq_true rfl) dX3_hourCost_22 ?_
  refine g_lshl X dX3_hourCost_25 ?_
  refine g_ladd X dX3_hourCost_26 ?_
  exact g_lret X Z h dX3_hourCost_27

/-! TallShips.offerHour -/
noncomputable def x_offerHour_11 (x1 x2 x4 : Int) (k1 : Wd → Option (Int × Wd)) : Nat → Int → Wd → Option (Int × Wd)
  | 0, _, _ => none
  | n + 1, x5, w =>
    (if wr (w 5 0) ≤ wr x5 then
      (k1 w)
    else
      (if wr (band (band x4 x2) (bshl 1 x5)) = 0 then
        (x_offerHour_11 x1 x2 x4 k1 n (x5 + 1) w)
      else
        (if 0 ≤ (bxor x4 (bshl 1 x5)) ∧ (bxor x4 (bshl 1 x5)) < 128 then
        (if wr (bcmp (w 22 (bxor x4 (bshl 1 x5)).toNat) (-1)) = 0 then
          (x_offerHour_11 x1 x2 x4 k1 n (x5 + 1) w)
        else
          (if 0 ≤ (bxor x4 (bshl 1 x5)) ∧ (bxor x4 (bshl 1 x5)) < 128 then
          ((x_hourCost x5 x1 w).bind fun q70 =>
          (if 0 ≤ x4 ∧ x4 < 128 then
          (let j103 := fun (_ : Unit) => 
              (if 0 ≤ x4 ∧ x4 < 128 then
              (x_offerHour_11 x1 x2 x4 k1 n (x5 + 1) (wset q70.2 22 x4.toNat ((w 22 (bxor x4 (bshl 1 x5)).toNat) + q70.1)))
              else none)
          (if wr (bcmp (q70.2 22 x4.toNat) (-1)) = 0 then
            (j103 ())
          else
            (if 0 ≤ x4 ∧ x4 < 128 then
            (if 0 ≤ wr (bcmp ((w 22 (bxor x4 (bshl 1 x5)).toNat) + q70.1) (q70.2 22 x4.toNat)) then
              (x_offerHour_11 x1 x2 x4 k1 n (x5 + 1) q70.2)
            else
              (j103 ()))
            else none)))
          else none))
          else none))
        else none)))
theorem x_offerHour_11_ok {lc : Launch} {κ : KX} {D : CX} {ad : Nat → Nat} {x1 x2 x4 : Int} {k1 : Wd → Option (Int × Wd)} {v : Int × Wd} (X : gX κ D cX3_offerHour RX3 rmX3_offerHour lc 9) (Z : gQ κ D LAY ad none none v.2 0 0) (hk1 : ∀ (w : Wd), k1 w = some v → G κ D LAY ad 0 0 w 118 [(0, .ref (ad 0)), (1, iv x1), (2, iv x2), (4, iv x4)] []) : ∀ (n : Nat) (x5 : Int) (w : Wd), x_offerHour_11 x1 x2 x4 k1 n x5 w = some v → G κ D LAY ad 0 0 w 11 [(0, .ref (ad 0)), (1, iv x1), (2, iv x2), (4, iv x4), (5, iv x5)] [] := by
  intro n
  induction n with
  | zero =>
    intro x5 w h
    cases h
  | succ n ih =>
    intro x5 w h
    rw [x_offerHour_11] at h
    refine g_iload X 4 dX3_offerHour_11 rfl ?_
    refine g_aload_n X 0 dX3_offerHour_13 rfl rfl ?_
    refine gf_X3_19 X dX3_offerHour_14 ?_
    refine gf_X3_68 X dX3_offerHour_17 ?_
    refine g_icmp_ge X h dX3_offerHour_20 (tgt := 118) (by decide) (fun h => ?_) (fun h => ?_)
    · refine g_sub [0, 1, 2, 3] rfl ?_
      exact hk1 w h
    · refine g_iconst X dX3_offerHour_23 ?_
      refine g_iload X 4 dX3_offerHour_24 rfl ?_
      refine g_ishl X dX3_offerHour_26 ?_
      refine g_istore X [1, 2, 3, 4, 5, 0] (ls1 := [(0, .ref (ad 0)), (1, iv x1), (2, iv x2), (4, iv x4), (5, iv x5), (6, iv (bshl 1 x5))]) dX3_offerHour_27 (by decide) rfl ?_
      refine g_iload X 3 dX3_offerHour_29 rfl ?_
      refine g_iload_n X 2 dX3_offerHour_31 rfl rfl ?_
      refine g_iand X dX3_offerHour_32 ?_
      refine g_iload X 5 dX3_offerHour_33 rfl ?_
      refine g_iand X dX3_offerHour_35 ?_
      refine g_if_eq X h dX3_offerHour_36 (tgt := 112) (by decide) (fun h => ?_) (fun h => ?_)
      · refine g_iinc X 4 [1, 2, 3, 4, 0, 5] (ls1 := [(0, .ref (ad 0)), (1, iv x1), (2, iv x2), (4, iv x4), (5, iv (x5 + 1)), (6, iv (bshl 1 x5))]) dX3_offerHour_112 rfl (by decide) rfl ?_
        refine g_goto X (tgt := 11) dX3_offerHour_115 (by decide) ?_
        refine g_sub [0, 1, 2, 3, 4] rfl ?_
        exact ih (x5 + 1) w h
      · refine g_aload_n X 0 dX3_offerHour_39 rfl rfl ?_
        refine gf_X3_30 X dX3_offerHour_40 ?_
        refine g_iload X 3 dX3_offerHour_43 rfl ?_
        refine g_iload X 5 dX3_offerHour_45 rfl ?_
        refine g_ixor X dX3_offerHour_47 ?_
        refine g_lald X (n := 128) (c := 22) h rfl (by decide) dX3_offerHour_48 (fun h => ?_)
        refine g_ldc2 X (-1) dX3_offerHour_49 wk_X3_176 ?_
        refine g_lcmp X dX3_offerHour_52 ?_
        refine g_if_eq X h dX3_offerHour_53 (tgt := 112) (by decide) (fun h => ?_) (fun h => ?_)
        · refine g_iinc X 4 [1, 2, 3, 4, 0, 5] (ls1 := [(0, .ref (ad 0)), (1, iv x1), (2, iv x2), (4, iv x4), (5, iv (x5 + 1)), (6, iv (bshl 1 x5))]) dX3_offerHour_112 rfl (by decide) rfl ?_
          refine g_goto X (tgt := 11) dX3_offerHour_115 (by decide) ?_
          refine g_sub [0, 1, 2, 3, 4] rfl ?_
          exact ih (x5 + 1) w h
        · refine g_aload_n X 0 dX3_offerHour_56 rfl rfl ?_
          refine gf_X3_30 X dX3_offerHour_57 ?_
          refine g_iload X 3 dX3_offerHour_60 rfl ?_
          refine g_iload X 5 dX3_offerHour_62 rfl ?_
          refine g_ixor X dX3_offerHour_64 ?_
          refine g_lald X (n := 128) (c := 22) h rfl (by decide) dX3_offerHour_65 (fun h => ?_)
          refine g_aload_n X 0 dX3_offerHour_66 rfl rfl ?_
          refine g_iload X 4 dX3_offerHour_67 rfl ?_
          refine g_iload_n X 1 dX3_offerHour_69 rfl rfl ?_
          obtain ⟨q70, e70, h⟩ := bindE h
          refine g_callVl X (st := [jv (w 22 (bxor x4 (bshl 1 x5)).toNat)]) 0 [iv x5, iv x1] (mc_x_hourCost e70) cal_X3_hourCost rfl rfl wm_X3_280 (by decide) rfl rfl ⟨by decide, by decide⟩ rfl (Nat.le_of_ble_eq_true rfl) dX3_offerHour_70 ?_
          refine g_ladd X dX3_offerHour_73 ?_
          refine g_lstore X [1, 2, 3, 4, 5, 6, 0] (ls1 := [(0, .ref (ad 0)), (1, iv x1), (2, iv x2), (4, iv x4), (5, iv x5), (6, iv (bshl 1 x5)), (7, jv ((w 22 (bxor x4 (bshl 1 x5)).toNat) + q70.1))]) dX3_offerHour_74 (by decide) rfl ?_
          refine g_aload_n X 0 dX3_offerHour_76 rfl rfl ?_
          refine gf_X3_30 X dX3_offerHour_77 ?_
          refine g_iload X 3 dX3_offerHour_80 rfl ?_
          refine g_lald X (n := 128) (c := 22) h rfl (by decide) dX3_offerHour_82 (fun h => ?_)
          refine g_ldc2 X (-1) dX3_offerHour_83 wk_X3_176 ?_
          refine g_lcmp X dX3_offerHour_86 ?_
          let j103 := fun (_ : Unit) => ((if 0 ≤ x4 ∧ x4 < 128 then
          (x_offerHour_11 x1 x2 x4 k1 n (x5 + 1) (wset q70.2 22 x4.toNat ((w 22 (bxor x4 (bshl 1 x5)).toNat) + q70.1)))
          else none))
          have J103 : ∀ (_u : Unit), ((if 0 ≤ x4 ∧ x4 < 128 then
          (x_offerHour_11 x1 x2 x4 k1 n (x5 + 1) (wset q70.2 22 x4.toNat ((w 22 (bxor x4 (bshl 1 x5)).toNat) + q70.1)))
          else none)) = some v → G κ D LAY ad 0 0 q70.2 103 [(0, .ref (ad 0)), (1, iv x1), (2, iv x2), (4, iv x4), (5, iv x5), (7, jv ((w 22 (bxor x4 (bshl 1 x5)).toNat) + q70.1))] [] := by
            intro _u h
            refine g_aload_n X 0 dX3_offerHour_103 rfl rfl ?_
            refine gf_X3_30 X dX3_offerHour_104 ?_
            refine g_iload X 3 dX3_offerHour_107 rfl ?_
            refine g_lload X 5 dX3_offerHour_109 rfl ?_
            refine g_last X (n := 128) (c := 22) h rfl (by decide) dX3_offerHour_111 (fun h => ?_)
            refine g_iinc X 4 [1, 2, 3, 4, 0, 5] (ls1 := [(0, .ref (ad 0)), (1, iv x1), (2, iv x2), (4, iv x4), (5, iv (x5 + 1)), (7, jv ((w 22 (bxor x4 (bshl 1 x5)).toNat) + q70.1))]) dX3_offerHour_112 rfl (by decide) rfl ?_
            refine g_goto X (tgt := 11) dX3_offerHour_115 (by decide) ?_
            refine g_sub [0, 1, 2, 3, 4] rfl ?_
            exact ih (x5 + 1) (wset q70.2 22 x4.toNat ((w 22 (bxor x4 (bshl 1 x5)).toNat) + q70.1)) h
          refine g_if_eq X h dX3_offerHour_87 (tgt := 103) (by decide) (fun h => ?_) (fun h => ?_)
          · refine g_sub [0, 1, 2, 3, 4, 6] rfl ?_
            exact J103 () h
          · refine g_lload X 6 dX3_offerHour_90 rfl ?_
            refine g_aload_n X 0 dX3_offerHour_92 rfl rfl ?_
            refine gf_X3_30 X dX3_offerHour_93 ?_
            refine g_iload X 3 dX3_offerHour_96 rfl ?_
            refine g_lald X (n := 128) (c := 22) h rfl (by decide) dX3_offerHour_98 (fun h => ?_)
            refine g_lcmp X dX3_offerHour_99 ?_
            refine g_if_ge X h dX3_offerHour_100 (tgt := 112) (by decide) (fun h => ?_) (fun h => ?_)
            · refine g_iinc X 4 [1, 2, 3, 4, 0, 5, 6] (ls1 := [(0, .ref (ad 0)), (1, iv x1), (2, iv x2), (4, iv x4), (5, iv (x5 + 1)), (6, iv (bshl 1 x5)), (7, jv ((w 22 (bxor x4 (bshl 1 x5)).toNat) + q70.1))]) dX3_offerHour_112 rfl (by decide) rfl ?_
              refine g_goto X (tgt := 11) dX3_offerHour_115 (by decide) ?_
              refine g_sub [0, 1, 2, 3, 4] rfl ?_
              exact ih (x5 + 1) q70.2 h
            · refine g_sub [0, 1, 2, 3, 4, 6] rfl ?_
              exact J103 () h
noncomputable def x_offerHour_3 (x1 x2 : Int) : Nat → Int → Wd → Option (Int × Wd)
  | 0, _, _ => none
  | n + 1, x4, w =>
    (if wr x4 ≤ 0 then
      some (0, w)
    else
      (x_offerHour_11 x1 x2 x4 (fun (w118 : Wd) =>
        (x_offerHour_3 x1 x2 n (x4 + (-1)) w118)) FU 0 w))
theorem x_offerHour_3_ok {lc : Launch} {κ : KX} {D : CX} {ad : Nat → Nat} {x1 x2 : Int} {v : Int × Wd} (X : gX κ D cX3_offerHour RX3 rmX3_offerHour lc 9) (Z : gQ κ D LAY ad none none v.2 0 0) : ∀ (n : Nat) (x4 : Int) (w : Wd), x_offerHour_3 x1 x2 n x4 w = some v → G κ D LAY ad 0 0 w 3 [(0, .ref (ad 0)), (1, iv x1), (2, iv x2), (4, iv x4)] [] := by
  intro n
  induction n with
  | zero =>
    intro x4 w h
    cases h
  | succ n ih =>
    intro x4 w h
    rw [x_offerHour_3] at h
    refine g_iload X 3 dX3_offerHour_3 rfl ?_
    refine g_if_le X h dX3_offerHour_5 (tgt := 124) (by decide) (fun h => ?_) (fun h => ?_)
    · exact g_vret X Z h dX3_offerHour_124
    · refine g_iconst X dX3_offerHour_8 ?_
      refine g_istore X [1, 2, 3, 4, 0] (ls1 := [(0, .ref (ad 0)), (1, iv x1), (2, iv x2), (4, iv x4), (5, iv 0)]) dX3_offerHour_9 (by decide) rfl ?_
      refine x_offerHour_11_ok X Z ?_ FU 0 w h
      · intro w118 h
        refine g_iinc X 3 [1, 2, 3, 0] (ls1 := [(0, .ref (ad 0)), (1, iv x1), (2, iv x2), (4, iv (x4 + (-1)))]) dX3_offerHour_118 rfl (by decide) rfl ?_
        refine g_goto X (tgt := 3) dX3_offerHour_121 (by decide) ?_
        exact ih (x4 + (-1)) w118 h
noncomputable def x_offerHour (x1 x2 x3 : Int) (w : Wd) : Option (Int × Wd) :=
  (x_offerHour_3 x1 x2 FU x3 w)
theorem mc_x_offerHour {lc : Launch} {D : CX} {ad : Nat → Nat} {w : Wd} {x1 x2 x3 : Int} {v : Int × Wd} (h : x_offerHour x1 x2 x3 w = some v) : Mc lc yX3_offerHour cX3_offerHour 9 none rmX3_offerHour D LAY ad [.ref (ad 0), iv x1, iv x2, iv x3] w none v.2 0 0 := by
  refine mc_of (by decide) (Nat.le_of_ble_eq_true rfl) ?_
  intro κ X Z
  show G κ D LAY ad 0 0 w 0 [(0, .ref (ad 0)), (1, iv x1), (2, iv x2), (3, iv x3)] []
  unfold x_offerHour at h
  refine g_iload_n X 3 dX3_offerHour_0 rfl rfl ?_
  refine g_istore X [1, 2, 3, 4, 0] (ls1 := [(0, .ref (ad 0)), (1, iv x1), (2, iv x2), (3, iv x3), (4, iv x3)]) dX3_offerHour_1 (by decide) rfl ?_
  refine g_sub [0, 1, 2, 4] rfl ?_
  refine x_offerHour_3_ok X Z FU x3 w h

/-! TallShips.canComeIn -/
noncomputable def x_canComeIn (x1 x2 : Int) (w : Wd) : Option (Int × Wd) :=
  (if 0 ≤ x1 ∧ x1 < 7 then
  ((qy_has (w 14 x1.toNat) w).bind fun q15 =>
  (if wr q15.1 = 0 then
    some (0, q15.2)
  else
    (if 0 ≤ x1 ∧ x1 < 7 then
    (if wr x2 < wr (q15.2 11 x1.toNat) then
      some (0, q15.2)
    else
      (if 0 ≤ x1 ∧ x1 < 7 then
      (if 0 ≤ x2 ∧ x2 < 120 then
      (if wr (q15.2 3 x2.toNat) < wr (q15.2 10 x1.toNat) then
        some (0, q15.2)
      else
        (if 0 ≤ (w 14 x1.toNat) ∧ (w 14 x1.toNat) < 4 then
        ((x_hasWayIn x1 x2 (q15.2 19 (w 14 x1.toNat).toNat) q15.2).bind fun q67 =>
        (if wr q67.1 = 0 then
          some (0, q67.2)
        else
          some (1, q67.2)))
        else none))
      else none)
      else none))
    else none)))
  else none)
theorem mc_x_canComeIn {lc : Launch} {D : CX} {ad : Nat → Nat} {w : Wd} {x1 x2 : Int} {v : Int × Wd} (h : x_canComeIn x1 x2 w = some v) : Mc lc yX3_canComeIn cX3_canComeIn 4 (some .boolean) rmX3_canComeIn D LAY ad [.ref (ad 0), iv x1, iv x2] w (some (iv v.1)) v.2 0 0 := by
  refine mc_of (by decide) (Nat.le_of_ble_eq_true rfl) ?_
  intro κ X Z
  show G κ D LAY ad 0 0 w 0 [(0, .ref (ad 0)), (1, iv x1), (2, iv x2)] []
  unfold x_canComeIn at h
  refine g_aload_n X 0 dX3_canComeIn_0 rfl rfl ?_
  refine gf_X3_19 X dX3_canComeIn_1 ?_
  refine gf_X3_142 X dX3_canComeIn_4 ?_
  refine g_iload_n X 1 dX3_canComeIn_7 rfl rfl ?_
  refine g_iald X (n := 7) (c := 14) h rfl (by decide) dX3_canComeIn_8 (fun h => ?_)
  refine g_istore_n X [1, 2, 3, 0] (ls1 := [(0, .ref (ad 0)), (1, iv x1), (2, iv x2), (3, iv (w 14 x1.toNat))]) dX3_canComeIn_9 rfl (by decide) rfl ?_
  refine g_aload_n X 0 dX3_canComeIn_10 rfl rfl ?_
  refine gf_X3_26 X dX3_canComeIn_11 ?_
  refine g_iload_n X 3 dX3_canComeIn_14 rfl rfl ?_
  obtain ⟨q15, e15, h⟩ := bindE h
  refine g_callVi X (st := []) 16 [iv (w 14 x1.toNat)] (mc_qy_has e15) cal_X1_has rfl rfl wm_X3_137 (by decide) rfl rfl ⟨by decide, by decide⟩ rfl (Nat.le_of_ble_eq_true rfl) dX3_canComeIn_15 ?_
  refine g_if_eq X h dX3_canComeIn_18 (tgt := 77) (by decide) (fun h => ?_) (fun h => ?_)
  · refine g_iconst X dX3_canComeIn_77 ?_
    exact g_zretC X Z h (by decide) dX3_canComeIn_78
  · refine g_iload_n X 2 dX3_canComeIn_21 rfl rfl ?_
    refine g_aload_n X 0 dX3_canComeIn_22 rfl rfl ?_
    refine gf_X3_19 X dX3_canComeIn_23 ?_
    refine gf_X3_87 X dX3_canComeIn_26 ?_
    refine g_iload_n X 1 dX3_canComeIn_29 rfl rfl ?_
    refine g_iald X (n := 7) (c := 11) h rfl (by decide) dX3_canComeIn_30 (fun h => ?_)
    refine g_icmp_lt X h dX3_canComeIn_31 (tgt := 77) (by decide) (fun h => ?_) (fun h => ?_)
    · refine g_iconst X dX3_canComeIn_77 ?_
      exact g_zretC X Z h (by decide) dX3_canComeIn_78
    · refine g_aload_n X 0 dX3_canComeIn_34 rfl rfl ?_
      refine gf_X3_19 X dX3_canComeIn_35 ?_
      refine gf_X3_84 X dX3_canComeIn_38 ?_
      refine g_iload_n X 1 dX3_canComeIn_41 rfl rfl ?_
      refine g_iald X (n := 7) (c := 10) h rfl (by decide) dX3_canComeIn_42 (fun h => ?_)
      refine g_aload_n X 0 dX3_canComeIn_43 rfl rfl ?_
      refine gf_X3_12 X dX3_canComeIn_44 ?_
      refine gf_X3_61 X dX3_canComeIn_47 ?_
      refine g_iload_n X 2 dX3_canComeIn_50 rfl rfl ?_
      refine g_iald X (n := 120) (c := 3) h rfl (by decide) dX3_canComeIn_51 (fun h => ?_)
      refine g_icmp_gt X h dX3_canComeIn_52 (tgt := 77) (by decide) (fun h => ?_) (fun h => ?_)
      · refine g_iconst X dX3_canComeIn_77 ?_
        exact g_zretC X Z h (by decide) dX3_canComeIn_78
      · refine g_aload_n X 0 dX3_canComeIn_55 rfl rfl ?_
        refine g_iload_n X 1 dX3_canComeIn_56 rfl rfl ?_
        refine g_iload_n X 2 dX3_canComeIn_57 rfl rfl ?_
        refine g_aload_n X 0 dX3_canComeIn_58 rfl rfl ?_
        refine gf_X3_26 X dX3_canComeIn_59 ?_
        refine gf_X3_98 X dX3_canComeIn_62 ?_
        refine g_iload_n X 3 dX3_canComeIn_65 rfl rfl ?_
        refine g_zald X (n := 4) (c := 19) h rfl (by decide) dX3_canComeIn_66 (fun h => ?_)
        obtain ⟨q67, e67, h⟩ := bindE h
        refine g_callVi X (st := []) 0 [iv x1, iv x2, iv (q15.2 19 (w 14 x1.toNat).toNat)] (mc_x_hasWayIn e67) cal_X3_hasWayIn rfl rfl wm_X3_211 (by decide) rfl rfl ⟨by decide, by decide⟩ rfl (Nat.le_of_ble_eq_true rfl) dX3_canComeIn_67 ?_
        refine g_if_eq X h dX3_canComeIn_70 (tgt := 77) (by decide) (fun h => ?_) (fun h => ?_)
        · refine g_iconst X dX3_canComeIn_77 ?_
          exact g_zretC X Z h (by decide) dX3_canComeIn_78
        · refine g_iconst X dX3_canComeIn_73 ?_
          refine g_goto X (tgt := 78) dX3_canComeIn_74 (by decide) ?_
          exact g_zretC X Z h (by decide) dX3_canComeIn_78

/-! TallShips.readyAt -/
noncomputable def x_readyAt_11 (x1 x2 x3 : Int) : Nat → Int → Int → Wd → Option (Int × Wd)
  | 0, _, _, _ => none
  | n + 1, x4, x5, w =>
    (if wr (w 5 0) ≤ wr x5 then
      some (x4, w)
    else
      (let j48 := fun (z48_0 : Int) => 
          (if wr z48_0 = 0 then
            (x_readyAt_11 x1 x2 x3 n x4 (x5 + 1) w)
          else
            ((x_canComeIn x5 x1 w).bind fun q59 =>
            (if wr q59.1 = 0 then
              (x_readyAt_11 x1 x2 x3 n x4 (x5 + 1) q59.2)
            else
              (if 0 ≤ x5 ∧ x5 < 7 then
              (if 0 ≤ x5 ∧ x5 < 7 then
              (x_readyAt_11 x1 x2 x3 n (bor x4 (bshl 1 x5)) (x5 + 1) (wset q59.2 25 x5.toNat ((q59.2 25 x5.toNat) + 1)))
              else none)
              else none))))
      let j47 := fun (_ : Unit) => 
          (j48 0)
      (if wr (band x2 (bshl 1 x5)) = 0 then
        (j47 ())
      else
        (if 0 ≤ x5 ∧ x5 < 7 then
        (if wr x3 ≤ wr (w 25 x5.toNat) then
          (j47 ())
        else
          (j48 1))
        else none))))
theorem x_readyAt_11_ok {lc : Launch} {κ : KX} {D : CX} {ad : Nat → Nat} {x1 x2 x3 : Int} {v : Int × Wd} (X : gX κ D cX3_readyAt RX3 rmX3_readyAt lc 7) (Z : gQ κ D LAY ad (some .int) (some (iv v.1)) v.2 0 0) : ∀ (n : Nat) (x4 : Int) (x5 : Int) (w : Wd), x_readyAt_11 x1 x2 x3 n x4 x5 w = some v → G κ D LAY ad 0 0 w 11 [(0, .ref (ad 0)), (1, iv x1), (2, iv x2), (3, iv x3), (4, iv x4), (5, iv x5)] [] := by
  intro n
  induction n with
  | zero =>
    intro x4 x5 w h
    cases h
  | succ n ih =>
    intro x4 x5 w h
    rw [x_readyAt_11] at h
    refine g_iload X 5 dX3_readyAt_11 rfl ?_
    refine g_aload_n X 0 dX3_readyAt_13 rfl rfl ?_
    refine gf_X3_19 X dX3_readyAt_14 ?_
    refine gf_X3_68 X dX3_readyAt_17 ?_
    refine g_icmp_ge X h dX3_readyAt_20 (tgt := 91) (by decide) (fun h => ?_) (fun h => ?_)
    · refine g_iload X 4 dX3_readyAt_91 rfl ?_
      exact g_iret X Z h dX3_readyAt_93
    · refine g_iload_n X 2 dX3_readyAt_23 rfl rfl ?_
      refine g_iconst X dX3_readyAt_24 ?_
      refine g_iload X 5 dX3_readyAt_25 rfl ?_
      refine g_ishl X dX3_readyAt_27 ?_
      refine g_iand X dX3_readyAt_28 ?_
      let j48 := fun (z48_0 : Int) => ((if wr z48_0 = 0 then
        (x_readyAt_11 x1 x2 x3 n x4 (x5 + 1) w)
      else
        ((x_canComeIn x5 x1 w).bind fun q59 =>
        (if wr q59.1 = 0 then
          (x_readyAt_11 x1 x2 x3 n x4 (x5 + 1) q59.2)
        else
          (if 0 ≤ x5 ∧ x5 < 7 then
          (if 0 ≤ x5 ∧ x5 < 7 then
          (x_readyAt_11 x1 x2 x3 n (bor x4 (bshl 1 x5)) (x5 + 1) (wset q59.2 25 x5.toNat ((q59.2 25 x5.toNat) + 1)))
          else none)
          else none)))))
      have J48 : ∀ (z48_0 : Int), ((if wr z48_0 = 0 then
        (x_readyAt_11 x1 x2 x3 n x4 (x5 + 1) w)
      else
        ((x_canComeIn x5 x1 w).bind fun q59 =>
        (if wr q59.1 = 0 then
          (x_readyAt_11 x1 x2 x3 n x4 (x5 + 1) q59.2)
        else
          (if 0 ≤ x5 ∧ x5 < 7 then
          (if 0 ≤ x5 ∧ x5 < 7 then
          (x_readyAt_11 x1 x2 x3 n (bor x4 (bshl 1 x5)) (x5 + 1) (wset q59.2 25 x5.toNat ((q59.2 25 x5.toNat) + 1)))
          else none)
          else none))))) = some v → G κ D LAY ad 0 0 w 48 [(0, .ref (ad 0)), (1, iv x1), (2, iv x2), (3, iv x3), (4, iv x4), (5, iv x5)] [iv z48_0] := by
        intro z48_0 h
        refine g_istore X [1, 2, 3, 4, 5, 6, 0] (ls1 := [(0, .ref (ad 0)), (1, iv x1), (2, iv x2), (3, iv x3), (4, iv x4), (5, iv x5), (6, iv z48_0)]) dX3_readyAt_48 (by decide) rfl ?_
        refine g_iload X 6 dX3_readyAt_50 rfl ?_
        refine g_if_eq X h dX3_readyAt_52 (tgt := 85) (by decide) (fun h => ?_) (fun h => ?_)
        · refine g_iinc X 5 [1, 2, 3, 4, 5, 0, 6] (ls1 := [(0, .ref (ad 0)), (1, iv x1), (2, iv x2), (3, iv x3), (4, iv x4), (5, iv (x5 + 1)), (6, iv z48_0)]) dX3_readyAt_85 rfl (by decide) rfl ?_
          refine g_goto X (tgt := 11) dX3_readyAt_88 (by decide) ?_
          refine g_sub [0, 1, 2, 3, 4, 5] rfl ?_
          exact ih x4 (x5 + 1) w h
        · refine g_aload_n X 0 dX3_readyAt_55 rfl rfl ?_
          refine g_iload X 5 dX3_readyAt_56 rfl ?_
          refine g_iload_n X 1 dX3_readyAt_58 rfl rfl ?_
          obtain ⟨q59, e59, h⟩ := bindE h
          refine g_callVi X (st := []) 0 [iv x5, iv x1] (mc_x_canComeIn e59) cal_X3_canComeIn rfl rfl wm_X3_277 (by decide) rfl rfl ⟨by decide, by decide⟩ rfl (Nat.le_of_ble_eq_true rfl) dX3_readyAt_59 ?_
          refine g_if_eq X h dX3_readyAt_62 (tgt := 85) (by decide) (fun h => ?_) (fun h => ?_)
          · refine g_iinc X 5 [1, 2, 3, 4, 5, 0, 6] (ls1 := [(0, .ref (ad 0)), (1, iv x1), (2, iv x2), (3, iv x3), (4, iv x4), (5, iv (x5 + 1)), (6, iv z48_0)]) dX3_readyAt_85 rfl (by decide) rfl ?_
            refine g_goto X (tgt := 11) dX3_readyAt_88 (by decide) ?_
            refine g_sub [0, 1, 2, 3, 4, 5] rfl ?_
            exact ih x4 (x5 + 1) q59.2 h
          · refine g_aload_n X 0 dX3_readyAt_65 rfl rfl ?_
            refine gf_X3_41 X dX3_readyAt_66 ?_
            refine g_iload X 5 dX3_readyAt_69 rfl ?_
            refine g_dup2 X dX3_readyAt_71 rfl rfl ?_
            refine g_iald X (n := 7) (c := 25) h rfl (by decide) dX3_readyAt_72 (fun h => ?_)
            refine g_iconst X dX3_readyAt_73 ?_
            refine g_iadd X dX3_readyAt_74 ?_
            refine g_iast X (n := 7) (c := 25) h rfl (by decide) dX3_readyAt_75 (fun h => ?_)
            refine g_iload X 4 dX3_readyAt_76 rfl ?_
            refine g_iconst X dX3_readyAt_78 ?_
            refine g_iload X 5 dX3_readyAt_79 rfl ?_
            refine g_ishl X dX3_readyAt_81 ?_
            refine g_ior X dX3_readyAt_82 ?_
            refine g_istore X [1, 2, 3, 4, 0, 5, 6] (ls1 := [(0, .ref (ad 0)), (1, iv x1), (2, iv x2), (3, iv x3), (4, iv (bor x4 (bshl 1 x5))), (5, iv x5), (6, iv z48_0)]) dX3_readyAt_83 (by decide) rfl ?_
            refine g_iinc X 5 [1, 2, 3, 4, 5, 0, 6] (ls1 := [(0, .ref (ad 0)), (1, iv x1), (2, iv x2), (3, iv x3), (4, iv (bor x4 (bshl 1 x5))), (5, iv (x5 + 1)), (6, iv z48_0)]) dX3_readyAt_85 rfl (by decide) rfl ?_
            refine g_goto X (tgt := 11) dX3_readyAt_88 (by decide) ?_
            refine g_sub [0, 1, 2, 3, 4, 5] rfl ?_
            exact ih (bor x4 (bshl 1 x5)) (x5 + 1) (wset q59.2 25 x5.toNat ((q59.2 25 x5.toNat) + 1)) h
      let j47 := fun (_ : Unit) => ((j48 0))
      have J47 : ∀ (_u : Unit), ((j48 0)) = some v → G κ D LAY ad 0 0 w 47 [(0, .ref (ad 0)), (1, iv x1), (2, iv x2), (3, iv x3), (4, iv x4), (5, iv x5)] [] := by
        intro _u h
        refine g_iconst X dX3_readyAt_47 ?_
        exact J48 0 h
      refine g_if_eq X h dX3_readyAt_29 (tgt := 47) (by decide) (fun h => ?_) (fun h => ?_)
      · exact J47 () h
      · refine g_aload_n X 0 dX3_readyAt_32 rfl rfl ?_
        refine gf_X3_41 X dX3_readyAt_33 ?_
        refine g_iload X 5 dX3_readyAt_36 rfl ?_
        refine g_iald X (n := 7) (c := 25) h rfl (by decide) dX3_readyAt_38 (fun h => ?_)
        refine g_iload_n X 3 dX3_readyAt_39 rfl rfl ?_
        refine g_icmp_ge X h dX3_readyAt_40 (tgt := 47) (by decide) (fun h => ?_) (fun h => ?_)
        · exact J47 () h
        · refine g_iconst X dX3_readyAt_43 ?_
          refine g_goto X (tgt := 48) dX3_readyAt_44 (by decide) ?_
          exact J48 1 h
noncomputable def x_readyAt (x1 x2 : Int) (w : Wd) : Option (Int × Wd) :=
  ((ji_bitCount x2 w).bind fun q1 =>
  (x_readyAt_11 x1 x2 q1.1 FU 0 0 q1.2))
theorem mc_x_readyAt {lc : Launch} {D : CX} {ad : Nat → Nat} {w : Wd} {x1 x2 : Int} {v : Int × Wd} (h : x_readyAt x1 x2 w = some v) : Mc lc yX3_readyAt cX3_readyAt 7 (some .int) rmX3_readyAt D LAY ad [.ref (ad 0), iv x1, iv x2] w (some (iv v.1)) v.2 0 0 := by
  refine mc_of (by decide) (Nat.le_of_ble_eq_true rfl) ?_
  intro κ X Z
  show G κ D LAY ad 0 0 w 0 [(0, .ref (ad 0)), (1, iv x1), (2, iv x2)] []
  unfold x_readyAt at h
  refine g_iload_n X 2 dX3_readyAt_0 rfl rfl ?_
  obtain ⟨q1, e1, h⟩ := bindE h
  refine g_callSi X (st := []) [iv x2] (mc_ji_bitCount e1) cal_J6_bitCount_0f7a4 wm_X3_118 (by decide) rfl rfl ⟨by decide, by decide⟩ rfl (Nat.le_of_ble_eq_true rfl) dX3_readyAt_1 ?_
  refine g_istore_n X [1, 2, 3, 0] (ls1 := [(0, .ref (ad 0)), (1, iv x1), (2, iv x2), (3, iv q1.1)]) dX3_readyAt_4 rfl (by decide) rfl ?_
  refine g_iconst X dX3_readyAt_5 ?_
  refine g_istore X [1, 2, 3, 4, 0] (ls1 := [(0, .ref (ad 0)), (1, iv x1), (2, iv x2), (3, iv q1.1), (4, iv 0)]) dX3_readyAt_6 (by decide) rfl ?_
  refine g_iconst X dX3_readyAt_8 ?_
  refine g_istore X [1, 2, 3, 4, 5, 0] (ls1 := [(0, .ref (ad 0)), (1, iv x1), (2, iv x2), (3, iv q1.1), (4, iv 0), (5, iv 0)]) dX3_readyAt_9 (by decide) rfl ?_
  refine x_readyAt_11_ok X Z FU 0 0 q1.2 h

/-! TallShips.leastPlan -/
noncomputable def x_leastPlan_27 (x1 : Int) : Nat → Int → Wd → Option (Int × Wd)
  | 0, _, _ => none
  | n + 1, x2, w =>
    (if wr 120 ≤ wr x2 then
      (if 0 ≤ x1 ∧ x1 < 128 then
      some ((w 22 x1.toNat), w)
      else none)
    else
      ((x_readyAt x2 x1 w).bind fun q36 =>
      (if wr q36.1 = 0 then
        (x_leastPlan_27 x1 n (x2 + 1) q36.2)
      else
        ((x_offerHour x2 q36.1 x1 q36.2).bind fun q48 =>
        (x_leastPlan_27 x1 n (x2 + 1) q48.2)))))
theorem x_leastPlan_27_ok {lc : Launch} {κ : KX} {D : CX} {ad : Nat → Nat} {x1 : Int} {v : Int × Wd} (X : gX κ D cX3_leastPlan RX3 rmX3_leastPlan lc 4) (Z : gQ κ D LAY ad (some .long) (some (jv v.1)) v.2 0 0) : ∀ (n : Nat) (x2 : Int) (w : Wd), x_leastPlan_27 x1 n x2 w = some v → G κ D LAY ad 0 0 w 27 [(0, .ref (ad 0)), (1, iv x1), (2, iv x2)] [] := by
  intro n
  induction n with
  | zero =>
    intro x2 w h
    cases h
  | succ n ih =>
    intro x2 w h
    rw [x_leastPlan_27] at h
    refine g_iload_n X 2 dX3_leastPlan_27 rfl rfl ?_
    refine g_bipush X 120 dX3_leastPlan_28 (by decide) ?_
    refine g_icmp_ge X h dX3_leastPlan_30 (tgt := 57) (by decide) (fun h => ?_) (fun h => ?_)
    · refine g_aload_n X 0 dX3_leastPlan_57 rfl rfl ?_
      refine gf_X3_30 X dX3_leastPlan_58 ?_
      refine g_iload_n X 1 dX3_leastPlan_61 rfl rfl ?_
      refine g_lald X (n := 128) (c := 22) h rfl (by decide) dX3_leastPlan_62 (fun h => ?_)
      exact g_lret X Z h dX3_leastPlan_63
    · refine g_aload_n X 0 dX3_leastPlan_33 rfl rfl ?_
      refine g_iload_n X 2 dX3_leastPlan_34 rfl rfl ?_
      refine g_iload_n X 1 dX3_leastPlan_35 rfl rfl ?_
      obtain ⟨q36, e36, h⟩ := bindE h
      refine g_callVi X (st := []) 0 [iv x2, iv x1] (mc_x_readyAt e36) cal_X3_readyAt rfl rfl wm_X3_270 (by decide) rfl rfl ⟨by decide, by decide⟩ rfl (Nat.le_of_ble_eq_true rfl) dX3_leastPlan_36 ?_
      refine g_istore_n X [1, 2, 3, 0] (ls1 := [(0, .ref (ad 0)), (1, iv x1), (2, iv x2), (3, iv q36.1)]) dX3_leastPlan_39 rfl (by decide) rfl ?_
      refine g_iload_n X 3 dX3_leastPlan_40 rfl rfl ?_
      refine g_if_eq X h dX3_leastPlan_41 (tgt := 51) (by decide) (fun h => ?_) (fun h => ?_)
      · refine g_iinc X 2 [1, 2, 0, 3] (ls1 := [(0, .ref (ad 0)), (1, iv x1), (2, iv (x2 + 1)), (3, iv q36.1)]) dX3_leastPlan_51 rfl (by decide) rfl ?_
        refine g_goto X (tgt := 27) dX3_leastPlan_54 (by decide) ?_
        refine g_sub [0, 1, 2] rfl ?_
        exact ih (x2 + 1) q36.2 h
      · refine g_aload_n X 0 dX3_leastPlan_44 rfl rfl ?_
        refine g_iload_n X 2 dX3_leastPlan_45 rfl rfl ?_
        refine g_iload_n X 3 dX3_leastPlan_46 rfl rfl ?_
        refine g_iload_n X 1 dX3_leastPlan_47 rfl rfl ?_
        obtain ⟨q48, e48, h⟩ := bindE h
        refine g_callVv X (st := []) 0 [iv x2, iv q36.1, iv x1] (mc_x_offerHour e48) cal_X3_offerHour rfl rfl wm_X3_273 (by decide) rfl rfl ⟨by decide, by decide⟩ rfl (Nat.le_of_ble_eq_true rfl) dX3_leastPlan_48 ?_
        refine g_iinc X 2 [1, 2, 0, 3] (ls1 := [(0, .ref (ad 0)), (1, iv x1), (2, iv (x2 + 1)), (3, iv q36.1)]) dX3_leastPlan_51 rfl (by decide) rfl ?_
        refine g_goto X (tgt := 27) dX3_leastPlan_54 (by decide) ?_
        refine g_sub [0, 1, 2] rfl ?_
        exact ih (x2 + 1) q48.2 h
noncomputable def x_leastPlan (x1 : Int) (w : Wd) : Option (Int × Wd) :=
  ((ja_fillL 22 128 (-1) w).bind fun q7 =>
  ((ja_fillI 25 7 0 (wset q7.2 22 0 0)).bind fun q22 =>
  (x_leastPlan_27 x1 FU 0 q22.2)))
theorem mc_x_leastPlan {lc : Launch} {D : CX} {ad : Nat → Nat} {w : Wd} {x1 : Int} {v : Int × Wd} (h : x_leastPlan x1 w = some v) : Mc lc yX3_leastPlan cX3_leastPlan 4 (some .long) rmX3_leastPlan D LAY ad [.ref (ad 0), iv x1] w (some (jv v.1)) v.2 0 0 := by
  refine mc_of (by decide) (Nat.le_of_ble_eq_true rfl) ?_
  intro κ X Z
  show G κ D LAY ad 0 0 w 0 [(0, .ref (ad 0)), (1, iv x1)] []
  unfold x_leastPlan at h
  refine g_aload_n X 0 dX3_leastPlan_0 rfl rfl ?_
  refine gf_X3_30 X dX3_leastPlan_1 ?_
  refine g_ldc2 X (-1) dX3_leastPlan_4 wk_X3_176 ?_
  obtain ⟨q7, e7, h⟩ := bindE h
  refine g_callSv X (st := []) [.ref (ad 22), jv (-1)] (mc_ja_fillL rfl (by decide) e7) cal_J7_fill_d0a16 wm_X3_261 (by decide) rfl rfl ⟨by decide, by decide⟩ rfl (Nat.le_of_ble_eq_true rfl) dX3_leastPlan_7 ?_
  refine g_aload_n X 0 dX3_leastPlan_10 rfl rfl ?_
  refine gf_X3_30 X dX3_leastPlan_11 ?_
  refine g_iconst X dX3_leastPlan_14 ?_
  refine g_lconst X 0 dX3_leastPlan_15 (by decide) ?_
  refine g_lastC X 0 (n := 128) (c := 22) (by decide) (by decide) rfl (by decide) dX3_leastPlan_16 ?_
  refine g_aload_n X 0 dX3_leastPlan_17 rfl rfl ?_
  refine gf_X3_41 X dX3_leastPlan_18 ?_
  refine g_iconst X dX3_leastPlan_21 ?_
  obtain ⟨q22, e22, h⟩ := bindE h
  refine g_callSv X (st := []) [.ref (ad 25), iv 0] (mc_ja_fillI rfl (by decide) e22) cal_J7_fill_53178 wm_X3_267 (by decide) rfl rfl ⟨by decide, by decide⟩ rfl (Nat.le_of_ble_eq_true rfl) dX3_leastPlan_22 ?_
  refine g_iconst X dX3_leastPlan_25 ?_
  refine g_istore_n X [1, 2, 0] (ls1 := [(0, .ref (ad 0)), (1, iv x1), (2, iv 0)]) dX3_leastPlan_26 rfl (by decide) rfl ?_
  refine x_leastPlan_27_ok X Z FU 0 q22.2 h

/-! TallShips.plan -/
noncomputable def x_plan (w : Wd) : Option (Int × Wd) :=
  ((fl_berthed w).bind fun q4 =>
  ((x_leastPlan q4.1 q4.2).bind fun q10 =>
  (if wr (bcmp q10.1 (-1)) = 0 then
    some ((-1), q10.2)
  else
    ((x_keepPlan q4.1 q10.1 q10.2).bind fun q27 =>
    some ((lshr q10.1 49), q27.2)))))
theorem mc_x_plan {lc : Launch} {D : CX} {ad : Nat → Nat} {w : Wd} {v : Int × Wd} (h : x_plan w = some v) : Mc lc yX3_plan cX3_plan 4 (some .int) rmX3_plan D LAY ad [.ref (ad 0)] w (some (iv v.1)) v.2 0 0 := by
  refine mc_of (by decide) (Nat.le_of_ble_eq_true rfl) ?_
  intro κ X Z
  show G κ D LAY ad 0 0 w 0 [(0, .ref (ad 0))] []
  unfold x_plan at h
  refine g_aload_n X 0 dX3_plan_0 rfl rfl ?_
  refine gf_X3_19 X dX3_plan_1 ?_
  obtain ⟨q4, e4, h⟩ := bindE h
  refine g_callVi X (st := []) 5 [] (mc_fl_berthed e4) cal_X0_berthed rfl rfl wm_X3_114 (by decide) rfl rfl ⟨by decide, by decide⟩ rfl (Nat.le_of_ble_eq_true rfl) dX3_plan_4 ?_
  refine g_istore_n X [1, 0] (ls1 := [(0, .ref (ad 0)), (1, iv q4.1)]) dX3_plan_7 rfl (by decide) rfl ?_
  refine g_aload_n X 0 dX3_plan_8 rfl rfl ?_
  refine g_iload_n X 1 dX3_plan_9 rfl rfl ?_
  obtain ⟨q10, e10, h⟩ := bindE h
  refine g_callVl X (st := []) 0 [iv q4.1] (mc_x_leastPlan e10) cal_X3_leastPlan rfl rfl wm_X3_172 (by decide) rfl rfl ⟨by decide, by decide⟩ rfl (Nat.le_of_ble_eq_true rfl) dX3_plan_10 ?_
  refine g_lstore_n X [1, 2, 0] (ls1 := [(0, .ref (ad 0)), (1, iv q4.1), (2, jv q10.1)]) dX3_plan_13 rfl (by decide) rfl ?_
  refine g_lload_n X 2 dX3_plan_14 rfl rfl ?_
  refine g_ldc2 X (-1) dX3_plan_15 wk_X3_176 ?_
  refine g_lcmp X dX3_plan_18 ?_
  refine g_if_ne X h dX3_plan_19 (tgt := 24) (by decide) (fun h => ?_) (fun h => ?_)
  · refine g_aload_n X 0 dX3_plan_24 rfl rfl ?_
    refine g_iload_n X 1 dX3_plan_25 rfl rfl ?_
    refine g_lload_n X 2 dX3_plan_26 rfl rfl ?_
    obtain ⟨q27, e27, h⟩ := bindE h
    refine g_callVv X (st := []) 0 [iv q4.1, jv q10.1] (mc_x_keepPlan e27) cal_X3_keepPlan rfl rfl wm_X3_178 (by decide) rfl rfl ⟨by decide, by decide⟩ rfl (Nat.le_of_ble_eq_true rfl) dX3_plan_27 ?_
    refine g_lload_n X 2 dX3_plan_30 rfl rfl ?_
    refine g_bipush X 49 dX3_plan_31 (by decide) ?_
    refine g_lshr X dX3_plan_33 ?_
    refine g_l2i X dX3_plan_34 ?_
    exact g_iret X Z h dX3_plan_35
  · refine g_iconst X dX3_plan_22 ?_
    exact g_iret X Z h dX3_plan_23

/-! TallShips.in -/
noncomputable def x_in (x1 : Int) (w : Wd) : Option (Int × Wd) :=
  ((fl_has x1 w).bind fun q5 =>
  (if wr q5.1 = 0 then
    some ((-1), q5.2)
  else
    (if 0 ≤ x1 ∧ x1 < 7 then
    some ((q5.2 15 x1.toNat), q5.2)
    else none)))
theorem mc_x_in {lc : Launch} {D : CX} {ad : Nat → Nat} {w : Wd} {x1 : Int} {v : Int × Wd} (h : x_in x1 w = some v) : Mc lc yX3_in cX3_in 2 (some .int) rmX3_in D LAY ad [.ref (ad 0), iv x1] w (some (iv v.1)) v.2 0 0 := by
  refine mc_of (by decide) (Nat.le_of_ble_eq_true rfl) ?_
  intro κ X Z
  show G κ D LAY ad 0 0 w 0 [(0, .ref (ad 0)), (1, iv x1)] []
  unfold x_in at h
  refine g_aload_n X 0 dX3_in_0 rfl rfl ?_
  refine gf_X3_19 X dX3_in_1 ?_
  refine g_iload_n X 1 dX3_in_4 rfl rfl ?_
  obtain ⟨q5, e5, h⟩ := bindE h
  refine g_callVi X (st := []) 5 [iv x1] (mc_fl_has e5) cal_X0_has rfl rfl wm_X3_108 (by decide) rfl rfl ⟨by decide, by decide⟩ rfl (Nat.le_of_ble_eq_true rfl) dX3_in_5 ?_
  refine g_if_eq X h dX3_in_8 (tgt := 23) (by decide) (fun h => ?_) (fun h => ?_)
  · refine g_iconst X dX3_in_23 ?_
    exact g_iret X Z h dX3_in_24
  · refine g_aload_n X 0 dX3_in_11 rfl rfl ?_
    refine gf_X3_19 X dX3_in_12 ?_
    refine gf_X3_182 X dX3_in_15 ?_
    refine g_iload_n X 1 dX3_in_18 rfl rfl ?_
    refine g_iald X (n := 7) (c := 15) h rfl (by decide) dX3_in_19 (fun h => ?_)
    refine g_goto X (tgt := 24) dX3_in_20 (by decide) ?_
    exact g_iret X Z h dX3_in_24

/-! TallShips.parade -/
noncomputable def x_parade_2 (x1 : Int) : Nat → Int → Wd → Option (Int × Wd)
  | 0, _, _ => none
  | n + 1, x2, w =>
    (if wr (w 5 0) ≤ wr x2 then
      some ((-1), w)
    else
      ((fl_isBerthed x2 w).bind fun q18 =>
      (if wr q18.1 = 0 then
        (x_parade_2 x1 n (x2 + 1) q18.2)
      else
        ((fl_aheadOf x2 q18.2).bind fun q29 =>
        (if wr q29.1 = wr x1 then
          some (x2, q29.2)
        else
          (x_parade_2 x1 n (x2 + 1) q29.2))))))
theorem x_parade_2_ok {lc : Launch} {κ : KX} {D : CX} {ad : Nat → Nat} {x1 : Int} {v : Int × Wd} (X : gX κ D cX3_parade RX3 rmX3_parade lc 3) (Z : gQ κ D LAY ad (some .int) (some (iv v.1)) v.2 0 0) : ∀ (n : Nat) (x2 : Int) (w : Wd), x_parade_2 x1 n x2 w = some v → G κ D LAY ad 0 0 w 2 [(0, .ref (ad 0)), (1, iv x1), (2, iv x2)] [] := by
  intro n
  induction n with
  | zero =>
    intro x2 w h
    cases h
  | succ n ih =>
    intro x2 w h
    rw [x_parade_2] at h
    refine g_iload_n X 2 dX3_parade_2 rfl rfl ?_
    refine g_aload_n X 0 dX3_parade_3 rfl rfl ?_
    refine gf_X3_19 X dX3_parade_4 ?_
    refine gf_X3_68 X dX3_parade_7 ?_
    refine g_icmp_ge X h dX3_parade_10 (tgt := 44) (by decide) (fun h => ?_) (fun h => ?_)
    · refine g_iconst X dX3_parade_44 ?_
      exact g_iret X Z h dX3_parade_45
    · refine g_aload_n X 0 dX3_parade_13 rfl rfl ?_
      refine gf_X3_19 X dX3_parade_14 ?_
      refine g_iload_n X 2 dX3_parade_17 rfl rfl ?_
      obtain ⟨q18, e18, h⟩ := bindE h
      refine g_callVi X (st := []) 5 [iv x2] (mc_fl_isBerthed e18) cal_X0_isBerthed rfl rfl wm_X3_185 (by decide) rfl rfl ⟨by decide, by decide⟩ rfl (Nat.le_of_ble_eq_true rfl) dX3_parade_18 ?_
      refine g_if_eq X h dX3_parade_21 (tgt := 38) (by decide) (fun h => ?_) (fun h => ?_)
      · refine g_iinc X 2 [1, 2, 0] (ls1 := [(0, .ref (ad 0)), (1, iv x1), (2, iv (x2 + 1))]) dX3_parade_38 rfl (by decide) rfl ?_
        refine g_goto X (tgt := 2) dX3_parade_41 (by decide) ?_
        exact ih (x2 + 1) q18.2 h
      · refine g_aload_n X 0 dX3_parade_24 rfl rfl ?_
        refine gf_X3_19 X dX3_parade_25 ?_
        refine g_iload_n X 2 dX3_parade_28 rfl rfl ?_
        obtain ⟨q29, e29, h⟩ := bindE h
        refine g_callVi X (st := []) 5 [iv x2] (mc_fl_aheadOf e29) cal_X0_aheadOf rfl rfl wm_X3_188 (by decide) rfl rfl ⟨by decide, by decide⟩ rfl (Nat.le_of_ble_eq_true rfl) dX3_parade_29 ?_
        refine g_iload_n X 1 dX3_parade_32 rfl rfl ?_
        refine g_icmp_ne X h dX3_parade_33 (tgt := 38) (by decide) (fun h => ?_) (fun h => ?_)
        · refine g_iinc X 2 [1, 2, 0] (ls1 := [(0, .ref (ad 0)), (1, iv x1), (2, iv (x2 + 1))]) dX3_parade_38 rfl (by decide) rfl ?_
          refine g_goto X (tgt := 2) dX3_parade_41 (by decide) ?_
          exact ih (x2 + 1) q29.2 h
        · refine g_iload_n X 2 dX3_parade_36 rfl rfl ?_
          exact g_iret X Z h dX3_parade_37
noncomputable def x_parade (x1 : Int) (w : Wd) : Option (Int × Wd) :=
  (x_parade_2 x1 FU 0 w)
theorem mc_x_parade {lc : Launch} {D : CX} {ad : Nat → Nat} {w : Wd} {x1 : Int} {v : Int × Wd} (h : x_parade x1 w = some v) : Mc lc yX3_parade cX3_parade 3 (some .int) rmX3_parade D LAY ad [.ref (ad 0), iv x1] w (some (iv v.1)) v.2 0 0 := by
  refine mc_of (by decide) (Nat.le_of_ble_eq_true rfl) ?_
  intro κ X Z
  show G κ D LAY ad 0 0 w 0 [(0, .ref (ad 0)), (1, iv x1)] []
  unfold x_parade at h
  refine g_iconst X dX3_parade_0 ?_
  refine g_istore_n X [1, 2, 0] (ls1 := [(0, .ref (ad 0)), (1, iv x1), (2, iv 0)]) dX3_parade_1 rfl (by decide) rfl ?_
  refine x_parade_2_ok X Z FU 0 w h

/-! TallShips.minutes -/
noncomputable def x_minutes_10 : Nat → Int → Int → Int → Wd → Option (Int × Wd)
  | 0, _, _, _, _ => none
  | n + 1, x1, x2, x3, w =>
    (if wr 7 ≤ wr x3 then
      some (x1, w)
    else
      ((x_parade x3 w).bind fun q18 =>
      ((fl_has x2 q18.2).bind fun q28 =>
      (if wr q28.1 = 0 then
        some (x1, q28.2)
      else
        ((fl_has q18.1 q28.2).bind fun q40 =>
        (if wr q40.1 = 0 then
          some (x1, q40.2)
        else
          (if 0 ≤ x2 ∧ x2 < 7 then
          (if 0 ≤ q18.1 ∧ q18.1 < 7 then
          (x_minutes_10 n (x1 + (imax (q40.2 12 x2.toNat) (q40.2 12 q18.1.toNat))) q18.1 (x3 + 1) q40.2)
          else none)
          else none)))))))
theorem x_minutes_10_ok {lc : Launch} {κ : KX} {D : CX} {ad : Nat → Nat} {v : Int × Wd} (X : gX κ D cX3_minutes RX3 rmX3_minutes lc 5) (Z : gQ κ D LAY ad (some .int) (some (iv v.1)) v.2 0 0) : ∀ (n : Nat) (x1 : Int) (x2 : Int) (x3 : Int) (w : Wd), x_minutes_10 n x1 x2 x3 w = some v → G κ D LAY ad 0 0 w 10 [(0, .ref (ad 0)), (1, iv x1), (2, iv x2), (3, iv x3)] [] := by
  intro n
  induction n with
  | zero =>
    intro x1 x2 x3 w h
    cases h
  | succ n ih =>
    intro x1 x2 x3 w h
    rw [x_minutes_10] at h
    refine g_iload_n X 3 dX3_minutes_10 rfl rfl ?_
    refine g_bipush X 7 dX3_minutes_11 (by decide) ?_
    refine g_icmp_ge X h dX3_minutes_13 (tgt := 82) (by decide) (fun h => ?_) (fun h => ?_)
    · refine g_iload_n X 1 dX3_minutes_82 rfl rfl ?_
      exact g_iret X Z h dX3_minutes_83
    · refine g_aload_n X 0 dX3_minutes_16 rfl rfl ?_
      refine g_iload_n X 3 dX3_minutes_17 rfl rfl ?_
      obtain ⟨q18, e18, h⟩ := bindE h
      refine g_callVi X (st := []) 0 [iv x3] (mc_x_parade e18) cal_X3_parade rfl rfl wm_X3_191 (by decide) rfl rfl ⟨by decide, by decide⟩ rfl (Nat.le_of_ble_eq_true rfl) dX3_minutes_18 ?_
      refine g_istore X [1, 2, 3, 4, 0] (ls1 := [(0, .ref (ad 0)), (1, iv x1), (2, iv x2), (3, iv x3), (4, iv q18.1)]) dX3_minutes_21 (by decide) rfl ?_
      refine g_aload_n X 0 dX3_minutes_23 rfl rfl ?_
      refine gf_X3_19 X dX3_minutes_24 ?_
      refine g_iload_n X 2 dX3_minutes_27 rfl rfl ?_
      obtain ⟨q28, e28, h⟩ := bindE h
      refine g_callVi X (st := []) 5 [iv x2] (mc_fl_has e28) cal_X0_has rfl rfl wm_X3_108 (by decide) rfl rfl ⟨by decide, by decide⟩ rfl (Nat.le_of_ble_eq_true rfl) dX3_minutes_28 ?_
      refine g_if_eq X h dX3_minutes_31 (tgt := 46) (by decide) (fun h => ?_) (fun h => ?_)
      · refine g_iload_n X 1 dX3_minutes_46 rfl rfl ?_
        exact g_iret X Z h dX3_minutes_47
      · refine g_aload_n X 0 dX3_minutes_34 rfl rfl ?_
        refine gf_X3_19 X dX3_minutes_35 ?_
        refine g_iload X 4 dX3_minutes_38 rfl ?_
        obtain ⟨q40, e40, h⟩ := bindE h
        refine g_callVi X (st := []) 5 [iv q18.1] (mc_fl_has e40) cal_X0_has rfl rfl wm_X3_108 (by decide) rfl rfl ⟨by decide, by decide⟩ rfl (Nat.le_of_ble_eq_true rfl) dX3_minutes_40 ?_
        refine g_if_ne X h dX3_minutes_43 (tgt := 48) (by decide) (fun h => ?_) (fun h => ?_)
        · refine g_iload_n X 1 dX3_minutes_48 rfl rfl ?_
          refine g_aload_n X 0 dX3_minutes_49 rfl rfl ?_
          refine gf_X3_19 X dX3_minutes_50 ?_
          refine gf_X3_90 X dX3_minutes_53 ?_
          refine g_iload_n X 2 dX3_minutes_56 rfl rfl ?_
          refine g_iald X (n := 7) (c := 12) h rfl (by decide) dX3_minutes_57 (fun h => ?_)
          refine g_aload_n X 0 dX3_minutes_58 rfl rfl ?_
          refine gf_X3_19 X dX3_minutes_59 ?_
          refine gf_X3_90 X dX3_minutes_62 ?_
          refine g_iload X 4 dX3_minutes_65 rfl ?_
          refine g_iald X (n := 7) (c := 12) h rfl (by decide) dX3_minutes_67 (fun h => ?_)
          refine g_mmax X wm_X3_194 (by decide) ⟨by decide, by decide⟩ (Nat.le_of_ble_eq_true rfl) dX3_minutes_68 ?_
          refine g_iadd X dX3_minutes_71 ?_
          refine g_istore_n X [1, 0, 2, 3, 4] (ls1 := [(0, .ref (ad 0)), (1, iv (x1 + (imax (q40.2 12 x2.toNat) (q40.2 12 q18.1.toNat)))), (2, iv x2), (3, iv x3), (4, iv q18.1)]) dX3_minutes_72 rfl (by decide) rfl ?_
          refine g_iload X 4 dX3_minutes_73 rfl ?_
          refine g_istore_n X [1, 2, 0, 3, 4] (ls1 := [(0, .ref (ad 0)), (1, iv (x1 + (imax (q40.2 12 x2.toNat) (q40.2 12 q18.1.toNat)))), (2, iv q18.1), (3, iv x3), (4, iv q18.1)]) dX3_minutes_75 rfl (by decide) rfl ?_
          refine g_iinc X 3 [1, 2, 3, 0, 4] (ls1 := [(0, .ref (ad 0)), (1, iv (x1 + (imax (q40.2 12 x2.toNat) (q40.2 12 q18.1.toNat)))), (2, iv q18.1), (3, iv (x3 + 1)), (4, iv q18.1)]) dX3_minutes_76 rfl (by decide) rfl ?_
          refine g_goto X (tgt := 10) dX3_minutes_79 (by decide) ?_
          refine g_sub [0, 1, 2, 3] rfl ?_
          exact ih (x1 + (imax (q40.2 12 x2.toNat) (q40.2 12 q18.1.toNat))) q18.1 (x3 + 1) q40.2 h
        · refine g_iload_n X 1 dX3_minutes_46 rfl rfl ?_
          exact g_iret X Z h dX3_minutes_47
noncomputable def x_minutes (w : Wd) : Option (Int × Wd) :=
  ((x_parade 0 w).bind fun q4 =>
  (x_minutes_10 FU 0 q4.1 1 q4.2))
theorem mc_x_minutes {lc : Launch} {D : CX} {ad : Nat → Nat} {w : Wd} {v : Int × Wd} (h : x_minutes w = some v) : Mc lc yX3_minutes cX3_minutes 5 (some .int) rmX3_minutes D LAY ad [.ref (ad 0)] w (some (iv v.1)) v.2 0 0 := by
  refine mc_of (by decide) (Nat.le_of_ble_eq_true rfl) ?_
  intro κ X Z
  show G κ D LAY ad 0 0 w 0 [(0, .ref (ad 0))] []
  unfold x_minutes at h
  refine g_iconst X dX3_minutes_0 ?_
  refine g_istore_n X [1, 0] (ls1 := [(0, .ref (ad 0)), (1, iv 0)]) dX3_minutes_1 rfl (by decide) rfl ?_
  refine g_aload_n X 0 dX3_minutes_2 rfl rfl ?_
  refine g_iconst X dX3_minutes_3 ?_
  obtain ⟨q4, e4, h⟩ := bindE h
  refine g_callVi X (st := []) 0 [iv 0] (mc_x_parade e4) cal_X3_parade rfl rfl wm_X3_191 (by decide) rfl rfl ⟨by decide, by decide⟩ rfl (Nat.le_of_ble_eq_true rfl) dX3_minutes_4 ?_
  refine g_istore_n X [1, 2, 0] (ls1 := [(0, .ref (ad 0)), (1, iv 0), (2, iv q4.1)]) dX3_minutes_7 rfl (by decide) rfl ?_
  refine g_iconst X dX3_minutes_8 ?_
  refine g_istore_n X [1, 2, 3, 0] (ls1 := [(0, .ref (ad 0)), (1, iv 0), (2, iv q4.1), (3, iv 1)]) dX3_minutes_9 rfl (by decide) rfl ?_
  refine x_minutes_10_ok X Z FU 0 q4.1 1 q4.2 h

/-! TallShips.isSteep -/
noncomputable def x_isSteep (x1 x2 : Int) (w : Wd) : Option (Int × Wd) :=
  (if 0 ≤ x1 ∧ x1 < 4 then
  ((rv_levelAt x2 w).bind fun q14 =>
  (if wr (iabs ((w 21 x1.toNat) - (q14.1 + 30))) ≤ wr (q14.2 4 4) then
    some (0, q14.2)
  else
    some (1, q14.2)))
  else none)
theorem mc_x_isSteep {lc : Launch} {D : CX} {ad : Nat → Nat} {w : Wd} {x1 x2 : Int} {v : Int × Wd} (h : x_isSteep x1 x2 w = some v) : Mc lc yX3_isSteep cX3_isSteep 4 (some .boolean) rmX3_isSteep D LAY ad [.ref (ad 0), iv x1, iv x2] w (some (iv v.1)) v.2 0 0 := by
  refine mc_of (by decide) (Nat.le_of_ble_eq_true rfl) ?_
  intro κ X Z
  show G κ D LAY ad 0 0 w 0 [(0, .ref (ad 0)), (1, iv x1), (2, iv x2)] []
  unfold x_isSteep at h
  refine g_aload_n X 0 dX3_isSteep_0 rfl rfl ?_
  refine gf_X3_26 X dX3_isSteep_1 ?_
  refine gf_X3_105 X dX3_isSteep_4 ?_
  refine g_iload_n X 1 dX3_isSteep_7 rfl rfl ?_
  refine g_iald X (n := 4) (c := 21) h rfl (by decide) dX3_isSteep_8 (fun h => ?_)
  refine g_aload_n X 0 dX3_isSteep_9 rfl rfl ?_
  refine gf_X3_12 X dX3_isSteep_10 ?_
  refine g_iload_n X 2 dX3_isSteep_13 rfl rfl ?_
  obtain ⟨q14, e14, h⟩ := bindE h
  refine g_callVi X (st := [iv (w 21 x1.toNat)]) 1 [iv x2] (mc_rv_levelAt e14) cal_X2_levelAt rfl rfl wm_X3_202 (by decide) rfl rfl ⟨by decide, by decide⟩ rfl (Nat.le_of_ble_eq_true rfl) dX3_isSteep_14 ?_
  refine g_bipush X 30 dX3_isSteep_17 (by decide) ?_
  refine g_iadd X dX3_isSteep_19 ?_
  refine g_isub X dX3_isSteep_20 ?_
  refine g_istore_n X [1, 2, 3, 0] (ls1 := [(0, .ref (ad 0)), (1, iv x1), (2, iv x2), (3, iv ((w 21 x1.toNat) - (q14.1 + 30)))]) dX3_isSteep_21 rfl (by decide) rfl ?_
  refine g_iload_n X 3 dX3_isSteep_22 rfl rfl ?_
  refine g_mabs X wm_X3_218 (by decide) ⟨by decide, by decide⟩ (Nat.le_of_ble_eq_true rfl) dX3_isSteep_23 ?_
  refine g_aload_n X 0 dX3_isSteep_26 rfl rfl ?_
  refine gf_X3_12 X dX3_isSteep_27 ?_
  refine gf_X3_54 X dX3_isSteep_30 ?_
  refine g_iconst X dX3_isSteep_33 ?_
  refine g_ialdC X 4 (n := 5) (c := 4) (by decide) (by decide) rfl (by decide) dX3_isSteep_34 ?_
  refine g_icmp_le X h dX3_isSteep_35 (tgt := 42) (by decide) (fun h => ?_) (fun h => ?_)
  · refine g_iconst X dX3_isSteep_42 ?_
    exact g_zretC X Z h (by decide) dX3_isSteep_43
  · refine g_iconst X dX3_isSteep_38 ?_
    refine g_goto X (tgt := 43) dX3_isSteep_39 (by decide) ?_
    exact g_zretC X Z h (by decide) dX3_isSteep_43

/-! TallShips.open -/
noncomputable def x_open_46 (x1 x3 : Int) : Nat → Int → Int → Wd → Option (Int × Wd)
  | 0, _, _, _ => none
  | n + 1, x4, x5, w =>
    (if wr x3 < wr x5 then
      some (x4, w)
    else
      (if 0 ≤ x1 ∧ x1 < 7 then
      ((x_isSteep (w 14 x1.toNat) x5 w).bind fun q64 =>
      (if wr q64.1 = 0 then
        (x_open_46 x1 x3 n (x4 + 1) (x5 + 1) q64.2)
      else
        (x_open_46 x1 x3 n x4 (x5 + 1) q64.2)))
      else none))
theorem x_open_46_ok {lc : Launch} {κ : KX} {D : CX} {ad : Nat → Nat} {x1 x3 : Int} {v : Int × Wd} (X : gX κ D cX3_open RX3 rmX3_open lc 6) (Z : gQ κ D LAY ad (some .int) (some (iv v.1)) v.2 0 0) : ∀ (n : Nat) (x4 : Int) (x5 : Int) (w : Wd), x_open_46 x1 x3 n x4 x5 w = some v → G κ D LAY ad 0 0 w 46 [(0, .ref (ad 0)), (1, iv x1), (3, iv x3), (4, iv x4), (5, iv x5)] [] := by
  intro n
  induction n with
  | zero =>
    intro x4 x5 w h
    cases h
  | succ n ih =>
    intro x4 x5 w h
    rw [x_open_46] at h
    refine g_iload X 4 dX3_open_46 rfl ?_
    refine g_iload_n X 2 dX3_open_48 rfl rfl ?_
    refine g_icmp_gt X h dX3_open_49 (tgt := 79) (by decide) (fun h => ?_) (fun h => ?_)
    · refine g_iload X 3 dX3_open_79 rfl ?_
      exact g_iret X Z h dX3_open_81
    · refine g_aload_n X 0 dX3_open_52 rfl rfl ?_
      refine g_aload_n X 0 dX3_open_53 rfl rfl ?_
      refine gf_X3_19 X dX3_open_54 ?_
      refine gf_X3_142 X dX3_open_57 ?_
      refine g_iload_n X 1 dX3_open_60 rfl rfl ?_
      refine g_iald X (n := 7) (c := 14) h rfl (by decide) dX3_open_61 (fun h => ?_)
      refine g_iload X 4 dX3_open_62 rfl ?_
      obtain ⟨q64, e64, h⟩ := bindE h
      refine g_callVi X (st := []) 0 [iv (w 14 x1.toNat), iv x5] (mc_x_isSteep e64) cal_X3_isSteep rfl rfl wm_X3_199 (by decide) rfl rfl ⟨by decide, by decide⟩ rfl (Nat.le_of_ble_eq_true rfl) dX3_open_64 ?_
      refine g_if_ne X h dX3_open_67 (tgt := 73) (by decide) (fun h => ?_) (fun h => ?_)
      · refine g_iinc X 4 [1, 2, 3, 4, 0] (ls1 := [(0, .ref (ad 0)), (1, iv x1), (3, iv x3), (4, iv x4), (5, iv (x5 + 1))]) dX3_open_73 rfl (by decide) rfl ?_
        refine g_goto X (tgt := 46) dX3_open_76 (by decide) ?_
        exact ih x4 (x5 + 1) q64.2 h
      · refine g_iinc X 3 [1, 2, 3, 0, 4] (ls1 := [(0, .ref (ad 0)), (1, iv x1), (3, iv x3), (4, iv (x4 + 1)), (5, iv x5)]) dX3_open_70 rfl (by decide) rfl ?_
        refine g_iinc X 4 [1, 2, 3, 4, 0] (ls1 := [(0, .ref (ad 0)), (1, iv x1), (3, iv x3), (4, iv (x4 + 1)), (5, iv (x5 + 1))]) dX3_open_73 rfl (by decide) rfl ?_
        refine g_goto X (tgt := 46) dX3_open_76 (by decide) ?_
        exact ih (x4 + 1) (x5 + 1) q64.2 h
noncomputable def x_open (x1 x2 x3 : Int) (w : Wd) : Option (Int × Wd) :=
  ((fl_has x1 w).bind fun q5 =>
  (if wr q5.1 = 0 then
    some ((-1), q5.2)
  else
    ((x_areHours x2 x3 q5.2).bind fun q13 =>
    (if wr q13.1 = 0 then
      some ((-1), q13.2)
    else
      (if 0 ≤ x1 ∧ x1 < 7 then
      ((qy_has (q13.2 14 x1.toNat) q13.2).bind fun q32 =>
      (if wr q32.1 = 0 then
        some ((-1), q32.2)
      else
        (x_open_46 x1 x3 FU 0 x2 q32.2)))
      else none)))))
theorem mc_x_open {lc : Launch} {D : CX} {ad : Nat → Nat} {w : Wd} {x1 x2 x3 : Int} {v : Int × Wd} (h : x_open x1 x2 x3 w = some v) : Mc lc yX3_open cX3_open 6 (some .int) rmX3_open D LAY ad [.ref (ad 0), iv x1, iv x2, iv x3] w (some (iv v.1)) v.2 0 0 := by
  refine mc_of (by decide) (Nat.le_of_ble_eq_true rfl) ?_
  intro κ X Z
  show G κ D LAY ad 0 0 w 0 [(0, .ref (ad 0)), (1, iv x1), (2, iv x2), (3, iv x3)] []
  unfold x_open at h
  refine g_aload_n X 0 dX3_open_0 rfl rfl ?_
  refine gf_X3_19 X dX3_open_1 ?_
  refine g_iload_n X 1 dX3_open_4 rfl rfl ?_
  obtain ⟨q5, e5, h⟩ := bindE h
  refine g_callVi X (st := []) 5 [iv x1] (mc_fl_has e5) cal_X0_has rfl rfl wm_X3_108 (by decide) rfl rfl ⟨by decide, by decide⟩ rfl (Nat.le_of_ble_eq_true rfl) dX3_open_5 ?_
  refine g_if_eq X h dX3_open_8 (tgt := 38) (by decide) (fun h => ?_) (fun h => ?_)
  · refine g_iconst X dX3_open_38 ?_
    exact g_iret X Z h dX3_open_39
  · refine g_iload_n X 2 dX3_open_11 rfl rfl ?_
    refine g_iload_n X 3 dX3_open_12 rfl rfl ?_
    obtain ⟨q13, e13, h⟩ := bindE h
    refine g_callSi X (st := []) [iv x2, iv x3] (mc_x_areHours e13) cal_X3_areHours wm_X3_57 (by decide) rfl rfl ⟨by decide, by decide⟩ rfl (Nat.le_of_ble_eq_true rfl) dX3_open_13 ?_
    refine g_if_eq X h dX3_open_16 (tgt := 38) (by decide) (fun h => ?_) (fun h => ?_)
    · refine g_iconst X dX3_open_38 ?_
      exact g_iret X Z h dX3_open_39
    · refine g_aload_n X 0 dX3_open_19 rfl rfl ?_
      refine gf_X3_26 X dX3_open_20 ?_
      refine g_aload_n X 0 dX3_open_23 rfl rfl ?_
      refine gf_X3_19 X dX3_open_24 ?_
      refine gf_X3_142 X dX3_open_27 ?_
      refine g_iload_n X 1 dX3_open_30 rfl rfl ?_
      refine g_iald X (n := 7) (c := 14) h rfl (by decide) dX3_open_31 (fun h => ?_)
      obtain ⟨q32, e32, h⟩ := bindE h
      refine g_callVi X (st := []) 16 [iv (q13.2 14 x1.toNat)] (mc_qy_has e32) cal_X1_has rfl rfl wm_X3_137 (by decide) rfl rfl ⟨by decide, by decide⟩ rfl (Nat.le_of_ble_eq_true rfl) dX3_open_32 ?_
      refine g_if_ne X h dX3_open_35 (tgt := 40) (by decide) (fun h => ?_) (fun h => ?_)
      · refine g_iconst X dX3_open_40 ?_
        refine g_istore X [1, 2, 3, 4, 0] (ls1 := [(0, .ref (ad 0)), (1, iv x1), (2, iv x2), (3, iv x3), (4, iv 0)]) dX3_open_41 (by decide) rfl ?_
        refine g_iload_n X 2 dX3_open_43 rfl rfl ?_
        refine g_istore X [1, 2, 3, 4, 5, 0] (ls1 := [(0, .ref (ad 0)), (1, iv x1), (2, iv x2), (3, iv x3), (4, iv 0), (5, iv x2)]) dX3_open_44 (by decide) rfl ?_
        refine g_sub [0, 1, 3, 4, 5] rfl ?_
        refine x_open_46_ok X Z FU 0 x2 q32.2 h
      · refine g_iconst X dX3_open_38 ?_
        exact g_iret X Z h dX3_open_39


/-! TallShipsModel.thrown -/
noncomputable def m_thrown (w : Wd) : Option (Int × Wd) :=
  some ((w 26 10), w)
theorem mc_m_thrown {lc : Launch} {D : CX} {ad : Nat → Nat} {w : Wd} {v : Int × Wd} (h : m_thrown w = some v) : Mc lc yX4_thrown cX4_thrown 1 (some .int) rmX4_thrown D LAY ad [.ref (ad 26)] w (some (iv v.1)) v.2 0 0 := by
  refine mc_of (by decide) (Nat.le_of_ble_eq_true rfl) ?_
  intro κ X Z
  show G κ D LAY ad 0 0 w 0 [(0, .ref (ad 26))] []
  unfold m_thrown at h
  refine g_aload_n X 0 dX4_thrown_0 rfl rfl ?_
  refine gf_X4_50 X dX4_thrown_1 ?_
  exact g_iret X Z h dX4_thrown_4

/-! TallShipsModel.in -/
noncomputable def m_in (x0 x1 x2 : Int) (w : Wd) : Option (Int × Wd) :=
  (if wr x0 < wr x1 then
    some (0, w)
  else
    (if wr x2 < wr x0 then
      some (0, w)
    else
      some (1, w)))
theorem mc_m_in {lc : Launch} {D : CX} {ad : Nat → Nat} {w : Wd} {x0 x1 x2 : Int} {v : Int × Wd} (h : m_in x0 x1 x2 w = some v) : Mc lc yX4_in cX4_in 3 (some .boolean) rmX4_in D LAY ad [iv x0, iv x1, iv x2] w (some (iv v.1)) v.2 0 0 := by
  refine mc_of (by decide) (Nat.le_of_ble_eq_true rfl) ?_
  intro κ X Z
  show G κ D LAY ad 0 0 w 0 [(0, iv x0), (1, iv x1), (2, iv x2)] []
  unfold m_in at h
  refine g_iload_n X 0 dX4_in_0 rfl rfl ?_
  refine g_iload_n X 1 dX4_in_1 rfl rfl ?_
  refine g_icmp_lt X h dX4_in_2 (tgt := 14) (by decide) (fun h => ?_) (fun h => ?_)
  · refine g_iconst X dX4_in_14 ?_
    exact g_zretC X Z h (by decide) dX4_in_15
  · refine g_iload_n X 0 dX4_in_5 rfl rfl ?_
    refine g_iload_n X 2 dX4_in_6 rfl rfl ?_
    refine g_icmp_gt X h dX4_in_7 (tgt := 14) (by decide) (fun h => ?_) (fun h => ?_)
    · refine g_iconst X dX4_in_14 ?_
      exact g_zretC X Z h (by decide) dX4_in_15
    · refine g_iconst X dX4_in_10 ?_
      refine g_goto X (tgt := 15) dX4_in_11 (by decide) ?_
      exact g_zretC X Z h (by decide) dX4_in_15

/-! TallShipsModel.isShip -/
noncomputable def m_isShip (x1 : Int) (w : Wd) : Option (Int × Wd) :=
  ((m_in x1 0 ((w 26 4) - 1) w).bind fun q8 =>
  (if q8.1 = 0 ∨ q8.1 = 1 then some (q8.1, q8.2) else none))
theorem mc_m_isShip {lc : Launch} {D : CX} {ad : Nat → Nat} {w : Wd} {x1 : Int} {v : Int × Wd} (h : m_isShip x1 w = some v) : Mc lc yX4_isShip cX4_isShip 2 (some .boolean) rmX4_isShip D LAY ad [.ref (ad 26), iv x1] w (some (iv v.1)) v.2 0 0 := by
  refine mc_of (by decide) (Nat.le_of_ble_eq_true rfl) ?_
  intro κ X Z
  show G κ D LAY ad 0 0 w 0 [(0, .ref (ad 26)), (1, iv x1)] []
  unfold m_isShip at h
  refine g_iload_n X 1 dX4_isShip_0 rfl rfl ?_
  refine g_iconst X dX4_isShip_1 ?_
  refine g_aload_n X 0 dX4_isShip_2 rfl rfl ?_
  refine gf_X4_54 X dX4_isShip_3 ?_
  refine g_iconst X dX4_isShip_6 ?_
  refine g_isub X dX4_isShip_7 ?_
  obtain ⟨q8, e8, h⟩ := bindE h
  refine g_callSi X (st := []) [iv x1, iv 0, iv ((w 26 4) - 1)] (mc_m_in e8) cal_X4_in wm_X4_57 (by decide) rfl rfl ⟨by decide, by decide⟩ rfl (Nat.le_of_ble_eq_true rfl) dX4_isShip_8 ?_
  exact g_zret X Z h dX4_isShip_11

/-! TallShipsModel.isQuay -/
noncomputable def m_isQuay (x1 : Int) (w : Wd) : Option (Int × Wd) :=
  ((m_in x1 0 ((w 26 6) - 1) w).bind fun q8 =>
  (if q8.1 = 0 ∨ q8.1 = 1 then some (q8.1, q8.2) else none))
theorem mc_m_isQuay {lc : Launch} {D : CX} {ad : Nat → Nat} {w : Wd} {x1 : Int} {v : Int × Wd} (h : m_isQuay x1 w = some v) : Mc lc yX4_isQuay cX4_isQuay 2 (some .boolean) rmX4_isQuay D LAY ad [.ref (ad 26), iv x1] w (some (iv v.1)) v.2 0 0 := by
  refine mc_of (by decide) (Nat.le_of_ble_eq_true rfl) ?_
  intro κ X Z
  show G κ D LAY ad 0 0 w 0 [(0, .ref (ad 26)), (1, iv x1)] []
  unfold m_isQuay at h
  refine g_iload_n X 1 dX4_isQuay_0 rfl rfl ?_
  refine g_iconst X dX4_isQuay_1 ?_
  refine g_aload_n X 0 dX4_isQuay_2 rfl rfl ?_
  refine gf_X4_61 X dX4_isQuay_3 ?_
  refine g_iconst X dX4_isQuay_6 ?_
  refine g_isub X dX4_isQuay_7 ?_
  obtain ⟨q8, e8, h⟩ := bindE h
  refine g_callSi X (st := []) [iv x1, iv 0, iv ((w 26 6) - 1)] (mc_m_in e8) cal_X4_in wm_X4_57 (by decide) rfl rfl ⟨by decide, by decide⟩ rfl (Nat.le_of_ble_eq_true rfl) dX4_isQuay_8 ?_
  exact g_zret X Z h dX4_isQuay_11

/-! TallShipsModel.isHour -/
noncomputable def m_isHour (x0 : Int) (w : Wd) : Option (Int × Wd) :=
  ((m_in x0 0 119 w).bind fun q4 =>
  (if q4.1 = 0 ∨ q4.1 = 1 then some (q4.1, q4.2) else none))
theorem mc_m_isHour {lc : Launch} {D : CX} {ad : Nat → Nat} {w : Wd} {x0 : Int} {v : Int × Wd} (h : m_isHour x0 w = some v) : Mc lc yX4_isHour cX4_isHour 1 (some .boolean) rmX4_isHour D LAY ad [iv x0] w (some (iv v.1)) v.2 0 0 := by
  refine mc_of (by decide) (Nat.le_of_ble_eq_true rfl) ?_
  intro κ X Z
  show G κ D LAY ad 0 0 w 0 [(0, iv x0)] []
  unfold m_isHour at h
  refine g_iload_n X 0 dX4_isHour_0 rfl rfl ?_
  refine g_iconst X dX4_isHour_1 ?_
  refine g_bipush X 119 dX4_isHour_2 (by decide) ?_
  obtain ⟨q4, e4, h⟩ := bindE h
  refine g_callSi X (st := []) [iv x0, iv 0, iv 119] (mc_m_in e4) cal_X4_in wm_X4_57 (by decide) rfl rfl ⟨by decide, by decide⟩ rfl (Nat.le_of_ble_eq_true rfl) dX4_isHour_4 ?_
  exact g_zret X Z h dX4_isHour_7

/-! TallShipsModel.tide -/
noncomputable def m_tide (x1 x2 : Int) (w : Wd) : Option (Int × Wd) :=
  ((m_in x1 0 11 (wset w 26 10 0)).bind fun q9 =>
  (if wr q9.1 = 0 then
    some (0, q9.2)
  else
    ((m_in x2 0 80 q9.2).bind fun q19 =>
    (if wr q19.1 = 0 then
      some (0, q19.2)
    else
      (if 0 ≤ x1 ∧ x1 < 12 then
      some (1, (wset q19.2 27 x1.toNat x2))
      else none)))))
theorem mc_m_tide {lc : Launch} {D : CX} {ad : Nat → Nat} {w : Wd} {x1 x2 : Int} {v : Int × Wd} (h : m_tide x1 x2 w = some v) : Mc lc yX4_tide cX4_tide 3 (some .boolean) rmX4_tide D LAY ad [.ref (ad 26), iv x1, iv x2] w (some (iv v.1)) v.2 0 0 := by
  refine mc_of (by decide) (Nat.le_of_ble_eq_true rfl) ?_
  intro κ X Z
  show G κ D LAY ad 0 0 w 0 [(0, .ref (ad 26)), (1, iv x1), (2, iv x2)] []
  unfold m_tide at h
  refine g_aload_n X 0 dX4_tide_0 rfl rfl ?_
  refine g_iconst X dX4_tide_1 ?_
  refine gp_X4_50 X dX4_tide_2 ?_
  refine g_iload_n X 1 dX4_tide_5 rfl rfl ?_
  refine g_iconst X dX4_tide_6 ?_
  refine g_bipush X 11 dX4_tide_7 (by decide) ?_
  obtain ⟨q9, e9, h⟩ := bindE h
  refine g_callSi X (st := []) [iv x1, iv 0, iv 11] (mc_m_in e9) cal_X4_in wm_X4_57 (by decide) rfl rfl ⟨by decide, by decide⟩ rfl (Nat.le_of_ble_eq_true rfl) dX4_tide_9 ?_
  refine g_if_eq X h dX4_tide_12 (tgt := 25) (by decide) (fun h => ?_) (fun h => ?_)
  · refine g_iconst X dX4_tide_25 ?_
    exact g_zretC X Z h (by decide) dX4_tide_26
  · refine g_iload_n X 2 dX4_tide_15 rfl rfl ?_
    refine g_iconst X dX4_tide_16 ?_
    refine g_bipush X 80 dX4_tide_17 (by decide) ?_
    obtain ⟨q19, e19, h⟩ := bindE h
    refine g_callSi X (st := []) [iv x2, iv 0, iv 80] (mc_m_in e19) cal_X4_in wm_X4_57 (by decide) rfl rfl ⟨by decide, by decide⟩ rfl (Nat.le_of_ble_eq_true rfl) dX4_tide_19 ?_
    refine g_if_ne X h dX4_tide_22 (tgt := 27) (by decide) (fun h => ?_) (fun h => ?_)
    · refine g_aload_n X 0 dX4_tide_27 rfl rfl ?_
      refine gf_X4_7 X dX4_tide_28 ?_
      refine g_iload_n X 1 dX4_tide_31 rfl rfl ?_
      refine g_iload_n X 2 dX4_tide_32 rfl rfl ?_
      refine g_iast X (n := 12) (c := 27) h rfl (by decide) dX4_tide_33 (fun h => ?_)
      refine g_iconst X dX4_tide_34 ?_
      exact g_zretC X Z h (by decide) dX4_tide_35
    · refine g_iconst X dX4_tide_25 ?_
      exact g_zretC X Z h (by decide) dX4_tide_26

/-! TallShipsModel.mostOf -/
noncomputable def m_mostOf (x0 : Int) (w : Wd) : Option (Int × Wd) :=
  (if wr x0 = 0 then
    some (200, w)
  else
    (if wr x0 = wr 1 then
      some (900, w)
    else
      (if wr x0 = wr 2 then
        some (20, w)
      else
        some (100, w))))
theorem mc_m_mostOf {lc : Launch} {D : CX} {ad : Nat → Nat} {w : Wd} {x0 : Int} {v : Int × Wd} (h : m_mostOf x0 w = some v) : Mc lc yX4_mostOf cX4_mostOf 1 (some .int) rmX4_mostOf D LAY ad [iv x0] w (some (iv v.1)) v.2 0 0 := by
  refine mc_of (by decide) (Nat.le_of_ble_eq_true rfl) ?_
  intro κ X Z
  show G κ D LAY ad 0 0 w 0 [(0, iv x0)] []
  unfold m_mostOf at h
  refine g_iload_n X 0 dX4_mostOf_0 rfl rfl ?_
  refine g_if_ne X h dX4_mostOf_1 (tgt := 10) (by decide) (fun h => ?_) (fun h => ?_)
  · refine g_iload_n X 0 dX4_mostOf_10 rfl rfl ?_
    refine g_iconst X dX4_mostOf_11 ?_
    refine g_icmp_ne X h dX4_mostOf_12 (tgt := 21) (by decide) (fun h => ?_) (fun h => ?_)
    · refine g_iload_n X 0 dX4_mostOf_21 rfl rfl ?_
      refine g_iconst X dX4_mostOf_22 ?_
      refine g_icmp_ne X h dX4_mostOf_23 (tgt := 31) (by decide) (fun h => ?_) (fun h => ?_)
      · refine g_bipush X 100 dX4_mostOf_31 (by decide) ?_
        exact g_iret X Z h dX4_mostOf_33
      · refine g_bipush X 20 dX4_mostOf_26 (by decide) ?_
        refine g_goto X (tgt := 33) dX4_mostOf_28 (by decide) ?_
        exact g_iret X Z h dX4_mostOf_33
    · refine g_sipush X 900 dX4_mostOf_15 (by decide) ?_
      refine g_goto X (tgt := 33) dX4_mostOf_18 (by decide) ?_
      exact g_iret X Z h dX4_mostOf_33
  · refine g_sipush X 200 dX4_mostOf_4 (by decide) ?_
    refine g_goto X (tgt := 33) dX4_mostOf_7 (by decide) ?_
    exact g_iret X Z h dX4_mostOf_33

/-! TallShipsModel.set -/
noncomputable def m_set (x1 x2 : Int) (w : Wd) : Option (Int × Wd) :=
  ((m_in x1 0 4 (wset w 26 10 0)).bind fun q8 =>
  (if wr q8.1 = 0 then
    some ((-1), q8.2)
  else
    ((m_mostOf x1 q8.2).bind fun q17 =>
    ((m_in x2 0 q17.1 q17.2).bind fun q20 =>
    (if wr q20.1 = 0 then
      some ((-1), q20.2)
    else
      (if 0 ≤ x1 ∧ x1 < 5 then
      (if 0 ≤ x1 ∧ x1 < 5 then
      some ((q20.2 28 x1.toNat), (wset q20.2 28 x1.toNat x2))
      else none)
      else none))))))
theorem mc_m_set {lc : Launch} {D : CX} {ad : Nat → Nat} {w : Wd} {x1 x2 : Int} {v : Int × Wd} (h : m_set x1 x2 w = some v) : Mc lc yX4_set cX4_set 4 (some .int) rmX4_set D LAY ad [.ref (ad 26), iv x1, iv x2] w (some (iv v.1)) v.2 0 0 := by
  refine mc_of (by decide) (Nat.le_of_ble_eq_true rfl) ?_
  intro κ X Z
  show G κ D LAY ad 0 0 w 0 [(0, .ref (ad 26)), (1, iv x1), (2, iv x2)] []
  unfold m_set at h
  refine g_aload_n X 0 dX4_set_0 rfl rfl ?_
  refine g_iconst X dX4_set_1 ?_
  refine gp_X4_50 X dX4_set_2 ?_
  refine g_iload_n X 1 dX4_set_5 rfl rfl ?_
  refine g_iconst X dX4_set_6 ?_
  refine g_iconst X dX4_set_7 ?_
  obtain ⟨q8, e8, h⟩ := bindE h
  refine g_callSi X (st := []) [iv x1, iv 0, iv 4] (mc_m_in e8) cal_X4_in wm_X4_57 (by decide) rfl rfl ⟨by decide, by decide⟩ rfl (Nat.le_of_ble_eq_true rfl) dX4_set_8 ?_
  refine g_if_eq X h dX4_set_11 (tgt := 26) (by decide) (fun h => ?_) (fun h => ?_)
  · refine g_iconst X dX4_set_26 ?_
    exact g_iret X Z h dX4_set_27
  · refine g_iload_n X 2 dX4_set_14 rfl rfl ?_
    refine g_iconst X dX4_set_15 ?_
    refine g_iload_n X 1 dX4_set_16 rfl rfl ?_
    obtain ⟨q17, e17, h⟩ := bindE h
    refine g_callSi X (st := [iv 0, iv x2]) [iv x1] (mc_m_mostOf e17) cal_X4_mostOf wm_X4_64 (by decide) rfl rfl ⟨by decide, by decide⟩ rfl (Nat.le_of_ble_eq_true rfl) dX4_set_17 ?_
    obtain ⟨q20, e20, h⟩ := bindE h
    refine g_callSi X (st := []) [iv x2, iv 0, iv q17.1] (mc_m_in e20) cal_X4_in wm_X4_57 (by decide) rfl rfl ⟨by decide, by decide⟩ rfl (Nat.le_of_ble_eq_true rfl) dX4_set_20 ?_
    refine g_if_ne X h dX4_set_23 (tgt := 28) (by decide) (fun h => ?_) (fun h => ?_)
    · refine g_aload_n X 0 dX4_set_28 rfl rfl ?_
      refine gf_X4_13 X dX4_set_29 ?_
      refine g_iload_n X 1 dX4_set_32 rfl rfl ?_
      refine g_iald X (n := 5) (c := 28) h rfl (by decide) dX4_set_33 (fun h => ?_)
      refine g_istore_n X [1, 2, 3, 0] (ls1 := [(0, .ref (ad 26)), (1, iv x1), (2, iv x2), (3, iv (q20.2 28 x1.toNat))]) dX4_set_34 rfl (by decide) rfl ?_
      refine g_aload_n X 0 dX4_set_35 rfl rfl ?_
      refine gf_X4_13 X dX4_set_36 ?_
      refine g_iload_n X 1 dX4_set_39 rfl rfl ?_
      refine g_iload_n X 2 dX4_set_40 rfl rfl ?_
      refine g_iast X (n := 5) (c := 28) h rfl (by decide) dX4_set_41 (fun h => ?_)
      refine g_iload_n X 3 dX4_set_42 rfl rfl ?_
      exact g_iret X Z h dX4_set_43
    · refine g_iconst X dX4_set_26 ?_
      exact g_iret X Z h dX4_set_27

/-! TallShipsModel.tugs -/
noncomputable def m_tugs_36 (x2 x3 : Int) : Nat → Int → Wd → Option (Int × Wd)
  | 0, _, _ => none
  | n + 1, x4, w =>
    (if wr x2 < wr x4 then
      some (1, w)
    else
      (if 0 ≤ x4 ∧ x4 < 120 then
      (m_tugs_36 x2 x3 n (x4 + 1) (wset w 29 x4.toNat x3))
      else none))
theorem m_tugs_36_ok {lc : Launch} {κ : KX} {D : CX} {ad : Nat → Nat} {x2 x3 : Int} {v : Int × Wd} (X : gX κ D cX4_tugs RX4 rmX4_tugs lc 5) (Z : gQ κ D LAY ad (some .boolean) (some (iv v.1)) v.2 0 0) : ∀ (n : Nat) (x4 : Int) (w : Wd), m_tugs_36 x2 x3 n x4 w = some v → G κ D LAY ad 0 0 w 36 [(0, .ref (ad 26)), (2, iv x2), (3, iv x3), (4, iv x4)] [] := by
  intro n
  induction n with
  | zero =>
    intro x4 w h
    cases h
  | succ n ih =>
    intro x4 w h
    rw [m_tugs_36] at h
    refine g_iload X 3 dX4_tugs_36 rfl ?_
    refine g_iload_n X 1 dX4_tugs_38 rfl rfl ?_
    refine g_icmp_gt X h dX4_tugs_39 (tgt := 56) (by decide) (fun h => ?_) (fun h => ?_)
    · refine g_iconst X dX4_tugs_56 ?_
      exact g_zretC X Z h (by decide) dX4_tugs_57
    · refine g_aload_n X 0 dX4_tugs_42 rfl rfl ?_
      refine gf_X4_16 X dX4_tugs_43 ?_
      refine g_iload X 3 dX4_tugs_46 rfl ?_
      refine g_iload_n X 2 dX4_tugs_48 rfl rfl ?_
      refine g_iast X (n := 120) (c := 29) h rfl (by decide) dX4_tugs_49 (fun h => ?_)
      refine g_iinc X 3 [1, 2, 3, 0] (ls1 := [(0, .ref (ad 26)), (2, iv x2), (3, iv x3), (4, iv (x4 + 1))]) dX4_tugs_50 rfl (by decide) rfl ?_
      refine g_goto X (tgt := 36) dX4_tugs_53 (by decide) ?_
      exact ih (x4 + 1) (wset w 29 x4.toNat x3) h
noncomputable def m_tugs (x1 x2 x3 : Int) (w : Wd) : Option (Int × Wd) :=
  ((m_isHour x2 (wset w 26 10 0)).bind fun q6 =>
  (if wr q6.1 = 0 then
    some (0, q6.2)
  else
    ((m_in x1 0 x2 q6.2).bind fun q15 =>
    (if wr q15.1 = 0 then
      some (0, q15.2)
    else
      ((m_in x3 0 9 q15.2).bind fun q25 =>
      (if wr q25.1 = 0 then
        some (0, q25.2)
      else
        (m_tugs_36 x2 x3 FU x1 q25.2)))))))
theorem mc_m_tugs {lc : Launch} {D : CX} {ad : Nat → Nat} {w : Wd} {x1 x2 x3 : Int} {v : Int × Wd} (h : m_tugs x1 x2 x3 w = some v) : Mc lc yX4_tugs cX4_tugs 5 (some .boolean) rmX4_tugs D LAY ad [.ref (ad 26), iv x1, iv x2, iv x3] w (some (iv v.1)) v.2 0 0 := by
  refine mc_of (by decide) (Nat.le_of_ble_eq_true rfl) ?_
  intro κ X Z
  show G κ D LAY ad 0 0 w 0 [(0, .ref (ad 26)), (1, iv x1), (2, iv x2), (3, iv x3)] []
  unfold m_tugs at h
  refine g_aload_n X 0 dX4_tugs_0 rfl rfl ?_
  refine g_iconst X dX4_tugs_1 ?_
  refine gp_X4_50 X dX4_tugs_2 ?_
  refine g_iload_n X 2 dX4_tugs_5 rfl rfl ?_
  obtain ⟨q6, e6, h⟩ := bindE h
  refine g_callSi X (st := []) [iv x2] (mc_m_isHour e6) cal_X4_isHour wm_X4_68 (by decide) rfl rfl ⟨by decide, by decide⟩ rfl (Nat.le_of_ble_eq_true rfl) dX4_tugs_6 ?_
  refine g_if_eq X h dX4_tugs_9 (tgt := 31) (by decide) (fun h => ?_) (fun h => ?_)
  · refine g_iconst X dX4_tugs_31 ?_
    exact g_zretC X Z h (by decide) dX4_tugs_32
  · refine g_iload_n X 1 dX4_tugs_12 rfl rfl ?_
    refine g_iconst X dX4_tugs_13 ?_
    refine g_iload_n X 2 dX4_tugs_14 rfl rfl ?_
    obtain ⟨q15, e15, h⟩ := bindE h
    refine g_callSi X (st := []) [iv x1, iv 0, iv x2] (mc_m_in e15) cal_X4_in wm_X4_57 (by decide) rfl rfl ⟨by decide, by decide⟩ rfl (Nat.le_of_ble_eq_true rfl) dX4_tugs_15 ?_
    refine g_if_eq X h dX4_tugs_18 (tgt := 31) (by decide) (fun h => ?_) (fun h => ?_)
    · refine g_iconst X dX4_tugs_31 ?_
      exact g_zretC X Z h (by decide) dX4_tugs_32
    · refine g_iload_n X 3 dX4_tugs_21 rfl rfl ?_
      refine g_iconst X dX4_tugs_22 ?_
      refine g_bipush X 9 dX4_tugs_23 (by decide) ?_
      obtain ⟨q25, e25, h⟩ := bindE h
      refine g_callSi X (st := []) [iv x3, iv 0, iv 9] (mc_m_in e25) cal_X4_in wm_X4_57 (by decide) rfl rfl ⟨by decide, by decide⟩ rfl (Nat.le_of_ble_eq_true rfl) dX4_tugs_25 ?_
      refine g_if_ne X h dX4_tugs_28 (tgt := 33) (by decide) (fun h => ?_) (fun h => ?_)
      · refine g_iload_n X 1 dX4_tugs_33 rfl rfl ?_
        refine g_istore X [1, 2, 3, 4, 0] (ls1 := [(0, .ref (ad 26)), (1, iv x1), (2, iv x2), (3, iv x3), (4, iv x1)]) dX4_tugs_34 (by decide) rfl ?_
        refine g_sub [0, 2, 3, 4] rfl ?_
        refine m_tugs_36_ok X Z FU x1 q25.2 h
      · refine g_iconst X dX4_tugs_31 ?_
        exact g_zretC X Z h (by decide) dX4_tugs_32

/-! TallShipsModel.foul -/
noncomputable def m_foul (x1 x2 x3 : Int) (w : Wd) : Option (Int × Wd) :=
  ((m_isShip x1 (wset w 26 10 0)).bind fun q7 =>
  (if wr q7.1 = 0 then
    some (0, q7.2)
  else
    ((m_isShip x2 q7.2).bind fun q15 =>
    (if wr q15.1 = 0 then
      some (0, q15.2)
    else
      (if wr x1 = wr x2 then
        some (0, q15.2)
      else
        (if (0 ≤ ((7 * x1) + x2) ∧ ((7 * x1) + x2) < 49) ∧ (x3 = 0 ∨ x3 = 1) then
        (if (0 ≤ ((7 * x2) + x1) ∧ ((7 * x2) + x1) < 49) ∧ (x3 = 0 ∨ x3 = 1) then
        some (1, (wset (wset q15.2 32 ((7 * x1) + x2).toNat x3) 32 ((7 * x2) + x1).toNat x3))
        else none)
        else none))))))
theorem mc_m_foul {lc : Launch} {D : CX} {ad : Nat → Nat} {w : Wd} {x1 x2 x3 : Int} {v : Int × Wd} (h : m_foul x1 x2 x3 w = some v) : Mc lc yX4_foul cX4_foul 4 (some .boolean) rmX4_foul D LAY ad [.ref (ad 26), iv x1, iv x2, iv x3] w (some (iv v.1)) v.2 0 0 := by
  refine mc_of (by decide) (Nat.le_of_ble_eq_true rfl) ?_
  intro κ X Z
  show G κ D LAY ad 0 0 w 0 [(0, .ref (ad 26)), (1, iv x1), (2, iv x2), (3, iv x3)] []
  unfold m_foul at h
  refine g_aload_n X 0 dX4_foul_0 rfl rfl ?_
  refine g_iconst X dX4_foul_1 ?_
  refine gp_X4_50 X dX4_foul_2 ?_
  refine g_aload_n X 0 dX4_foul_5 rfl rfl ?_
  refine g_iload_n X 1 dX4_foul_6 rfl rfl ?_
  obtain ⟨q7, e7, h⟩ := bindE h
  refine g_callVi X (st := []) 26 [iv x1] (mc_m_isShip e7) cal_X4_isShip rfl rfl wm_X4_72 (by decide) rfl rfl ⟨by decide, by decide⟩ rfl (Nat.le_of_ble_eq_true rfl) dX4_foul_7 ?_
  refine g_if_eq X h dX4_foul_10 (tgt := 26) (by decide) (fun h => ?_) (fun h => ?_)
  · refine g_iconst X dX4_foul_26 ?_
    exact g_zretC X Z h (by decide) dX4_foul_27
  · refine g_aload_n X 0 dX4_foul_13 rfl rfl ?_
    refine g_iload_n X 2 dX4_foul_14 rfl rfl ?_
    obtain ⟨q15, e15, h⟩ := bindE h
    refine g_callVi X (st := []) 26 [iv x2] (mc_m_isShip e15) cal_X4_isShip rfl rfl wm_X4_72 (by decide) rfl rfl ⟨by decide, by decide⟩ rfl (Nat.le_of_ble_eq_true rfl) dX4_foul_15 ?_
    refine g_if_eq X h dX4_foul_18 (tgt := 26) (by decide) (fun h => ?_) (fun h => ?_)
    · refine g_iconst X dX4_foul_26 ?_
      exact g_zretC X Z h (by decide) dX4_foul_27
    · refine g_iload_n X 1 dX4_foul_21 rfl rfl ?_
      refine g_iload_n X 2 dX4_foul_22 rfl rfl ?_
      refine g_icmp_ne X h dX4_foul_23 (tgt := 28) (by decide) (fun h => ?_) (fun h => ?_)
      · refine g_aload_n X 0 dX4_foul_28 rfl rfl ?_
        refine gf_X4_25 X dX4_foul_29 ?_
        refine g_bipush X 7 dX4_foul_32 (by decide) ?_
        refine g_iload_n X 1 dX4_foul_34 rfl rfl ?_
        refine g_imul X dX4_foul_35 ?_
        refine g_iload_n X 2 dX4_foul_36 rfl rfl ?_
        refine g_iadd X dX4_foul_37 ?_
        refine g_iload_n X 3 dX4_foul_38 rfl rfl ?_
        refine g_zast X (n := 49) (c := 32) h rfl (by decide) dX4_foul_39 (fun h => ?_)
        refine g_aload_n X 0 dX4_foul_40 rfl rfl ?_
        refine gf_X4_25 X dX4_foul_41 ?_
        refine g_bipush X 7 dX4_foul_44 (by decide) ?_
        refine g_iload_n X 2 dX4_foul_46 rfl rfl ?_
        refine g_imul X dX4_foul_47 ?_
        refine g_iload_n X 1 dX4_foul_48 rfl rfl ?_
        refine g_iadd X dX4_foul_49 ?_
        refine g_iload_n X 3 dX4_foul_50 rfl rfl ?_
        refine g_zast X (n := 49) (c := 32) h rfl (by decide) dX4_foul_51 (fun h => ?_)
        refine g_iconst X dX4_foul_52 ?_
        exact g_zretC X Z h (by decide) dX4_foul_53
      · refine g_iconst X dX4_foul_26 ?_
        exact g_zretC X Z h (by decide) dX4_foul_27

/-! TallShipsModel.arrives -/
noncomputable def m_arrives (x1 x2 : Int) (w : Wd) : Option (Int × Wd) :=
  ((m_isShip x1 (wset w 26 10 0)).bind fun q7 =>
  (if wr q7.1 = 0 then
    some ((-1), q7.2)
  else
    ((m_isHour x2 q7.2).bind fun q14 =>
    (if wr q14.1 = 0 then
      some ((-1), q14.2)
    else
      (if 0 ≤ ((7 * x1) + 5) ∧ ((7 * x1) + 5) < 49 then
      (if 0 ≤ ((7 * x1) + 5) ∧ ((7 * x1) + 5) < 49 then
      some ((q14.2 30 ((7 * x1) + 5).toNat), (wset q14.2 30 ((7 * x1) + 5).toNat x2))
      else none)
      else none)))))
theorem mc_m_arrives {lc : Launch} {D : CX} {ad : Nat → Nat} {w : Wd} {x1 x2 : Int} {v : Int × Wd} (h : m_arrives x1 x2 w = some v) : Mc lc yX4_arrives cX4_arrives 4 (some .int) rmX4_arrives D LAY ad [.ref (ad 26), iv x1, iv x2] w (some (iv v.1)) v.2 0 0 := by
  refine mc_of (by decide) (Nat.le_of_ble_eq_true rfl) ?_
  intro κ X Z
  show G κ D LAY ad 0 0 w 0 [(0, .ref (ad 26)), (1, iv x1), (2, iv x2)] []
  unfold m_arrives at h
  refine g_aload_n X 0 dX4_arrives_0 rfl rfl ?_
  refine g_iconst X dX4_arrives_1 ?_
  refine gp_X4_50 X dX4_arrives_2 ?_
  refine g_aload_n X 0 dX4_arrives_5 rfl rfl ?_
  refine g_iload_n X 1 dX4_arrives_6 rfl rfl ?_
  obtain ⟨q7, e7, h⟩ := bindE h
  refine g_callVi X (st := []) 26 [iv x1] (mc_m_isShip e7) cal_X4_isShip rfl rfl wm_X4_72 (by decide) rfl rfl ⟨by decide, by decide⟩ rfl (Nat.le_of_ble_eq_true rfl) dX4_arrives_7 ?_
  refine g_if_eq X h dX4_arrives_10 (tgt := 20) (by decide) (fun h => ?_) (fun h => ?_)
  · refine g_iconst X dX4_arrives_20 ?_
    exact g_iret X Z h dX4_arrives_21
  · refine g_iload_n X 2 dX4_arrives_13 rfl rfl ?_
    obtain ⟨q14, e14, h⟩ := bindE h
    refine g_callSi X (st := []) [iv x2] (mc_m_isHour e14) cal_X4_isHour wm_X4_68 (by decide) rfl rfl ⟨by decide, by decide⟩ rfl (Nat.le_of_ble_eq_true rfl) dX4_arrives_14 ?_
    refine g_if_ne X h dX4_arrives_17 (tgt := 22) (by decide) (fun h => ?_) (fun h => ?_)
    · refine g_aload_n X 0 dX4_arrives_22 rfl rfl ?_
      refine gf_X4_19 X dX4_arrives_23 ?_
      refine g_bipush X 7 dX4_arrives_26 (by decide) ?_
      refine g_iload_n X 1 dX4_arrives_28 rfl rfl ?_
      refine g_imul X dX4_arrives_29 ?_
      refine g_iconst X dX4_arrives_30 ?_
      refine g_iadd X dX4_arrives_31 ?_
      refine g_iald X (n := 49) (c := 30) h rfl (by decide) dX4_arrives_32 (fun h => ?_)
      refine g_istore_n X [1, 2, 3, 0] (ls1 := [(0, .ref (ad 26)), (1, iv x1), (2, iv x2), (3, iv (q14.2 30 ((7 * x1) + 5).toNat))]) dX4_arrives_33 rfl (by decide) rfl ?_
      refine g_aload_n X 0 dX4_arrives_34 rfl rfl ?_
      refine gf_X4_19 X dX4_arrives_35 ?_
      refine g_bipush X 7 dX4_arrives_38 (by decide) ?_
      refine g_iload_n X 1 dX4_arrives_40 rfl rfl ?_
      refine g_imul X dX4_arrives_41 ?_
      refine g_iconst X dX4_arrives_42 ?_
      refine g_iadd X dX4_arrives_43 ?_
      refine g_iload_n X 2 dX4_arrives_44 rfl rfl ?_
      refine g_iast X (n := 49) (c := 30) h rfl (by decide) dX4_arrives_45 (fun h => ?_)
      refine g_iload_n X 3 dX4_arrives_46 rfl rfl ?_
      exact g_iret X Z h dX4_arrives_47
    · refine g_iconst X dX4_arrives_20 ?_
      exact g_iret X Z h dX4_arrives_21

/-! TallShipsModel.least -/
noncomputable def m_least_9 : Nat → Int → Int → Wd → Option (Int × Wd)
  | 0, _, _, _ => none
  | n + 1, x1, x2, w =>
    (if wr 12 ≤ wr x2 then
      some (x1, w)
    else
      (if 0 ≤ x2 ∧ x2 < 12 then
      (if wr x1 ≤ wr (w 27 x2.toNat) then
        (m_least_9 n x1 (x2 + 1) w)
      else
        (if 0 ≤ x2 ∧ x2 < 12 then
        (m_least_9 n (w 27 x2.toNat) (x2 + 1) w)
        else none))
      else none))
theorem m_least_9_ok {lc : Launch} {κ : KX} {D : CX} {ad : Nat → Nat} {v : Int × Wd} (X : gX κ D cX4_least RX4 rmX4_least lc 3) (Z : gQ κ D LAY ad (some .int) (some (iv v.1)) v.2 0 0) : ∀ (n : Nat) (x1 : Int) (x2 : Int) (w : Wd), m_least_9 n x1 x2 w = some v → G κ D LAY ad 0 0 w 9 [(0, .ref (ad 26)), (1, iv x1), (2, iv x2)] [] := by
  intro n
  induction n with
  | zero =>
    intro x1 x2 w h
    cases h
  | succ n ih =>
    intro x1 x2 w h
    rw [m_least_9] at h
    refine g_iload_n X 2 dX4_least_9 rfl rfl ?_
    refine g_bipush X 12 dX4_least_10 (by decide) ?_
    refine g_icmp_ge X h dX4_least_12 (tgt := 42) (by decide) (fun h => ?_) (fun h => ?_)
    · refine g_iload_n X 1 dX4_least_42 rfl rfl ?_
      exact g_iret X Z h dX4_least_43
    · refine g_aload_n X 0 dX4_least_15 rfl rfl ?_
      refine gf_X4_7 X dX4_least_16 ?_
      refine g_iload_n X 2 dX4_least_19 rfl rfl ?_
      refine g_iald X (n := 12) (c := 27) h rfl (by decide) dX4_least_20 (fun h => ?_)
      refine g_iload_n X 1 dX4_least_21 rfl rfl ?_
      refine g_icmp_ge X h dX4_least_22 (tgt := 34) (by decide) (fun h => ?_) (fun h => ?_)
      · refine g_iload_n X 1 dX4_least_34 rfl rfl ?_
        refine g_istore_n X [1, 0, 2] (ls1 := [(0, .ref (ad 26)), (1, iv x1), (2, iv x2)]) dX4_least_35 rfl (by decide) rfl ?_
        refine g_iinc X 2 [1, 2, 0] (ls1 := [(0, .ref (ad 26)), (1, iv x1), (2, iv (x2 + 1))]) dX4_least_36 rfl (by decide) rfl ?_
        refine g_goto X (tgt := 9) dX4_least_39 (by decide) ?_
        exact ih x1 (x2 + 1) w h
      · refine g_aload_n X 0 dX4_least_25 rfl rfl ?_
        refine gf_X4_7 X dX4_least_26 ?_
        refine g_iload_n X 2 dX4_least_29 rfl rfl ?_
        refine g_iald X (n := 12) (c := 27) h rfl (by decide) dX4_least_30 (fun h => ?_)
        refine g_goto X (tgt := 35) dX4_least_31 (by decide) ?_
        refine g_istore_n X [1, 0, 2] (ls1 := [(0, .ref (ad 26)), (1, iv (w 27 x2.toNat)), (2, iv x2)]) dX4_least_35 rfl (by decide) rfl ?_
        refine g_iinc X 2 [1, 2, 0] (ls1 := [(0, .ref (ad 26)), (1, iv (w 27 x2.toNat)), (2, iv (x2 + 1))]) dX4_least_36 rfl (by decide) rfl ?_
        refine g_goto X (tgt := 9) dX4_least_39 (by decide) ?_
        exact ih (w 27 x2.toNat) (x2 + 1) w h
noncomputable def m_least (w : Wd) : Option (Int × Wd) :=
  (m_least_9 FU (w 27 0) 1 w)
theorem mc_m_least {lc : Launch} {D : CX} {ad : Nat → Nat} {w : Wd} {v : Int × Wd} (h : m_least w = some v) : Mc lc yX4_least cX4_least 3 (some .int) rmX4_least D LAY ad [.ref (ad 26)] w (some (iv v.1)) v.2 0 0 := by
  refine mc_of (by decide) (Nat.le_of_ble_eq_true rfl) ?_
  intro κ X Z
  show G κ D LAY ad 0 0 w 0 [(0, .ref (ad 26))] []
  unfold m_least at h
  refine g_aload_n X 0 dX4_least_0 rfl rfl ?_
  refine gf_X4_7 X dX4_least_1 ?_
  refine g_iconst X dX4_least_4 ?_
  refine g_ialdC X 0 (n := 12) (c := 27) (by decide) (by decide) rfl (by decide) dX4_least_5 ?_
  refine g_istore_n X [1, 0] (ls1 := [(0, .ref (ad 26)), (1, iv (w 27 0))]) dX4_least_6 rfl (by decide) rfl ?_
  refine g_iconst X dX4_least_7 ?_
  refine g_istore_n X [1, 2, 0] (ls1 := [(0, .ref (ad 26)), (1, iv (w 27 0)), (2, iv 1)]) dX4_least_8 rfl (by decide) rfl ?_
  refine m_least_9_ok X Z FU (w 27 0) 1 w h

/-! TallShipsModel.greatest -/
noncomputable def m_greatest_9 : Nat → Int → Int → Wd → Option (Int × Wd)
  | 0, _, _, _ => none
  | n + 1, x1, x2, w =>
    (if wr 12 ≤ wr x2 then
      some (x1, w)
    else
      (if 0 ≤ x2 ∧ x2 < 12 then
      (if wr (w 27 x2.toNat) ≤ wr x1 then
        (m_greatest_9 n x1 (x2 + 1) w)
      else
        (if 0 ≤ x2 ∧ x2 < 12 then
        (m_greatest_9 n (w 27 x2.toNat) (x2 + 1) w)
        else none))
      else none))
theorem m_greatest_9_ok {lc : Launch} {κ : KX} {D : CX} {ad : Nat → Nat} {v : Int × Wd} (X : gX κ D cX4_greatest RX4 rmX4_greatest lc 3) (Z : gQ κ D LAY ad (some .int) (some (iv v.1)) v.2 0 0) : ∀ (n : Nat) (x1 : Int) (x2 : Int) (w : Wd), m_greatest_9 n x1 x2 w = some v → G κ D LAY ad 0 0 w 9 [(0, .ref (ad 26)), (1, iv x1), (2, iv x2)] [] := by
  intro n
  induction n with
  | zero =>
    intro x1 x2 w h
    cases h
  | succ n ih =>
    intro x1 x2 w h
    rw [m_greatest_9] at h
    refine g_iload_n X 2 dX4_greatest_9 rfl rfl ?_
    refine g_bipush X 12 dX4_greatest_10 (by decide) ?_
    refine g_icmp_ge X h dX4_greatest_12 (tgt := 42) (by decide) (fun h => ?_) (fun h => ?_)
    · refine g_iload_n X 1 dX4_greatest_42 rfl rfl ?_
      exact g_iret X Z h dX4_greatest_43
    · refine g_aload_n X 0 dX4_greatest_15 rfl rfl ?_
      refine gf_X4_7 X dX4_greatest_16 ?_
      refine g_iload_n X 2 dX4_greatest_19 rfl rfl ?_
      refine g_iald X (n := 12) (c := 27) h rfl (by decide) dX4_greatest_20 (fun h => ?_)
      refine g_iload_n X 1 dX4_greatest_21 rfl rfl ?_
      refine g_icmp_le X h dX4_greatest_22 (tgt := 34) (by decide) (fun h => ?_) (fun h => ?_)
      · refine g_iload_n X 1 dX4_greatest_34 rfl rfl ?_
        refine g_istore_n X [1, 0, 2] (ls1 := [(0, .ref (ad 26)), (1, iv x1), (2, iv x2)]) dX4_greatest_35 rfl (by decide) rfl ?_
        refine g_iinc X 2 [1, 2, 0] (ls1 := [(0, .ref (ad 26)), (1, iv x1), (2, iv (x2 + 1))]) dX4_greatest_36 rfl (by decide) rfl ?_
        refine g_goto X (tgt := 9) dX4_greatest_39 (by decide) ?_
        exact ih x1 (x2 + 1) w h
      · refine g_aload_n X 0 dX4_greatest_25 rfl rfl ?_
        refine gf_X4_7 X dX4_greatest_26 ?_
        refine g_iload_n X 2 dX4_greatest_29 rfl rfl ?_
        refine g_iald X (n := 12) (c := 27) h rfl (by decide) dX4_greatest_30 (fun h => ?_)
        refine g_goto X (tgt := 35) dX4_greatest_31 (by decide) ?_
        refine g_istore_n X [1, 0, 2] (ls1 := [(0, .ref (ad 26)), (1, iv (w 27 x2.toNat)), (2, iv x2)]) dX4_greatest_35 rfl (by decide) rfl ?_
        refine g_iinc X 2 [1, 2, 0] (ls1 := [(0, .ref (ad 26)), (1, iv (w 27 x2.toNat)), (2, iv (x2 + 1))]) dX4_greatest_36 rfl (by decide) rfl ?_
        refine g_goto X (tgt := 9) dX4_greatest_39 (by decide) ?_
        exact ih (w 27 x2.toNat) (x2 + 1) w h
noncomputable def m_greatest (w : Wd) : Option (Int × Wd) :=
  (m_greatest_9 FU (w 27 0) 1 w)
theorem mc_m_greatest {lc : Launch} {D : CX} {ad : Nat → Nat} {w : Wd} {v : Int × Wd} (h : m_greatest w = some v) : Mc lc yX4_greatest cX4_greatest 3 (some .int) rmX4_greatest D LAY ad [.ref (ad 26)] w (some (iv v.1)) v.2 0 0 := by
  refine mc_of (by decide) (Nat.le_of_ble_eq_true rfl) ?_
  intro κ X Z
  show G κ D LAY ad 0 0 w 0 [(0, .ref (ad 26))] []
  unfold m_greatest at h
  refine g_aload_n X 0 dX4_greatest_0 rfl rfl ?_
  refine gf_X4_7 X dX4_greatest_1 ?_
  refine g_iconst X dX4_greatest_4 ?_
  refine g_ialdC X 0 (n := 12) (c := 27) (by decide) (by decide) rfl (by decide) dX4_greatest_5 ?_
  refine g_istore_n X [1, 0] (ls1 := [(0, .ref (ad 26)), (1, iv (w 27 0))]) dX4_greatest_6 rfl (by decide) rfl ?_
  refine g_iconst X dX4_greatest_7 ?_
  refine g_istore_n X [1, 2, 0] (ls1 := [(0, .ref (ad 26)), (1, iv (w 27 0)), (2, iv 1)]) dX4_greatest_8 rfl (by decide) rfl ?_
  refine m_greatest_9_ok X Z FU (w 27 0) 1 w h

/-! TallShipsModel.level -/
noncomputable def m_level (x1 : Int) (w : Wd) : Option (Int × Wd) :=
  (if 0 ≤ (brem x1 12) ∧ (brem x1 12) < 12 then
  some ((w 27 (brem x1 12).toNat), w)
  else none)
theorem mc_m_level {lc : Launch} {D : CX} {ad : Nat → Nat} {w : Wd} {x1 : Int} {v : Int × Wd} (h : m_level x1 w = some v) : Mc lc yX4_level cX4_level 2 (some .int) rmX4_level D LAY ad [.ref (ad 26), iv x1] w (some (iv v.1)) v.2 0 0 := by
  refine mc_of (by decide) (Nat.le_of_ble_eq_true rfl) ?_
  intro κ X Z
  show G κ D LAY ad 0 0 w 0 [(0, .ref (ad 26)), (1, iv x1)] []
  unfold m_level at h
  refine g_aload_n X 0 dX4_level_0 rfl rfl ?_
  refine gf_X4_7 X dX4_level_1 ?_
  refine g_iload_n X 1 dX4_level_4 rfl rfl ?_
  refine g_bipush X 12 dX4_level_5 (by decide) ?_
  refine g_iremC X (by decide) dX4_level_7 ?_
  refine g_iald X (n := 12) (c := 27) h rfl (by decide) dX4_level_8 (fun h => ?_)
  exact g_iret X Z h dX4_level_9

/-! TallShipsModel.comes -/
noncomputable def m_comes (x1 x2 x3 : Int) (w : Wd) : Option (Int × Wd) :=
  ((m_level x2 w).bind fun q8 =>
  (if 0 ≤ ((7 * x1) + 1) ∧ ((7 * x1) + 1) < 49 then
  (if wr ((q8.2 30 ((7 * x1) + 1).toNat) + (q8.2 28 2)) ≤ wr ((w 28 0) + q8.1) then
    (if wr x3 = 0 then
      some (1, q8.2)
    else
      (if 0 ≤ ((7 * x1) + 2) ∧ ((7 * x1) + 2) < 49 then
      ((m_level x2 q8.2).bind fun q52 =>
      (if wr (q52.2 28 1) < wr (((q8.2 30 ((7 * x1) + 2).toNat) + q52.1) + (q52.2 28 2)) then
        some (0, q52.2)
      else
        some (1, q52.2)))
      else none))
  else
    some (0, q8.2))
  else none))
theorem mc_m_comes {lc : Launch} {D : CX} {ad : Nat → Nat} {w : Wd} {x1 x2 x3 : Int} {v : Int × Wd} (h : m_comes x1 x2 x3 w = some v) : Mc lc yX4_comes cX4_comes 4 (some .boolean) rmX4_comes D LAY ad [.ref (ad 26), iv x1, iv x2, iv x3] w (some (iv v.1)) v.2 0 0 := by
  refine mc_of (by decide) (Nat.le_of_ble_eq_true rfl) ?_
  intro κ X Z
  show G κ D LAY ad 0 0 w 0 [(0, .ref (ad 26)), (1, iv x1), (2, iv x2), (3, iv x3)] []
  unfold m_comes at h
  refine g_aload_n X 0 dX4_comes_0 rfl rfl ?_
  refine gf_X4_13 X dX4_comes_1 ?_
  refine g_iconst X dX4_comes_4 ?_
  refine g_ialdC X 0 (n := 5) (c := 28) (by decide) (by decide) rfl (by decide) dX4_comes_5 ?_
  refine g_aload_n X 0 dX4_comes_6 rfl rfl ?_
  refine g_iload_n X 2 dX4_comes_7 rfl rfl ?_
  obtain ⟨q8, e8, h⟩ := bindE h
  refine g_callVi X (st := [iv (w 28 0)]) 26 [iv x2] (mc_m_level e8) cal_X4_level rfl rfl wm_X4_75 (by decide) rfl rfl ⟨by decide, by decide⟩ rfl (Nat.le_of_ble_eq_true rfl) dX4_comes_8 ?_
  refine g_iadd X dX4_comes_11 ?_
  refine g_aload_n X 0 dX4_comes_12 rfl rfl ?_
  refine gf_X4_19 X dX4_comes_13 ?_
  refine g_bipush X 7 dX4_comes_16 (by decide) ?_
  refine g_iload_n X 1 dX4_comes_18 rfl rfl ?_
  refine g_imul X dX4_comes_19 ?_
  refine g_iconst X dX4_comes_20 ?_
  refine g_iadd X dX4_comes_21 ?_
  refine g_iald X (n := 49) (c := 30) h rfl (by decide) dX4_comes_22 (fun h => ?_)
  refine g_aload_n X 0 dX4_comes_23 rfl rfl ?_
  refine gf_X4_13 X dX4_comes_24 ?_
  refine g_iconst X dX4_comes_27 ?_
  refine g_ialdC X 2 (n := 5) (c := 28) (by decide) (by decide) rfl (by decide) dX4_comes_28 ?_
  refine g_iadd X dX4_comes_29 ?_
  refine g_icmp_ge X h dX4_comes_30 (tgt := 35) (by decide) (fun h => ?_) (fun h => ?_)
  · refine g_iload_n X 3 dX4_comes_35 rfl rfl ?_
    refine g_if_eq X h dX4_comes_36 (tgt := 72) (by decide) (fun h => ?_) (fun h => ?_)
    · refine g_iconst X dX4_comes_72 ?_
      refine g_goto X (tgt := 77) dX4_comes_73 (by decide) ?_
      exact g_zretC X Z h (by decide) dX4_comes_77
    · refine g_aload_n X 0 dX4_comes_39 rfl rfl ?_
      refine gf_X4_19 X dX4_comes_40 ?_
      refine g_bipush X 7 dX4_comes_43 (by decide) ?_
      refine g_iload_n X 1 dX4_comes_45 rfl rfl ?_
      refine g_imul X dX4_comes_46 ?_
      refine g_iconst X dX4_comes_47 ?_
      refine g_iadd X dX4_comes_48 ?_
      refine g_iald X (n := 49) (c := 30) h rfl (by decide) dX4_comes_49 (fun h => ?_)
      refine g_aload_n X 0 dX4_comes_50 rfl rfl ?_
      refine g_iload_n X 2 dX4_comes_51 rfl rfl ?_
      obtain ⟨q52, e52, h⟩ := bindE h
      refine g_callVi X (st := [iv (q8.2 30 ((7 * x1) + 2).toNat)]) 26 [iv x2] (mc_m_level e52) cal_X4_level rfl rfl wm_X4_75 (by decide) rfl rfl ⟨by decide, by decide⟩ rfl (Nat.le_of_ble_eq_true rfl) dX4_comes_52 ?_
      refine g_iadd X dX4_comes_55 ?_
      refine g_aload_n X 0 dX4_comes_56 rfl rfl ?_
      refine gf_X4_13 X dX4_comes_57 ?_
      refine g_iconst X dX4_comes_60 ?_
      refine g_ialdC X 2 (n := 5) (c := 28) (by decide) (by decide) rfl (by decide) dX4_comes_61 ?_
      refine g_iadd X dX4_comes_62 ?_
      refine g_aload_n X 0 dX4_comes_63 rfl rfl ?_
      refine gf_X4_13 X dX4_comes_64 ?_
      refine g_iconst X dX4_comes_67 ?_
      refine g_ialdC X 1 (n := 5) (c := 28) (by decide) (by decide) rfl (by decide) dX4_comes_68 ?_
      refine g_icmp_gt X h dX4_comes_69 (tgt := 76) (by decide) (fun h => ?_) (fun h => ?_)
      · refine g_iconst X dX4_comes_76 ?_
        exact g_zretC X Z h (by decide) dX4_comes_77
      · refine g_iconst X dX4_comes_72 ?_
        refine g_goto X (tgt := 77) dX4_comes_73 (by decide) ?_
        exact g_zretC X Z h (by decide) dX4_comes_77
  · refine g_iconst X dX4_comes_33 ?_
    exact g_zretC X Z h (by decide) dX4_comes_34

/-! TallShipsModel.firstFor -/
noncomputable def m_firstFor_3 (x1 x3 : Int) : Nat → Int → Wd → Option (Int × Wd)
  | 0, _, _ => none
  | n + 1, x4, w =>
    (if wr 120 ≤ wr x4 then
      some ((-1), w)
    else
      ((m_comes x1 x4 x3 w).bind fun q15 =>
      (if wr q15.1 = 0 then
        (m_firstFor_3 x1 x3 n (x4 + 1) q15.2)
      else
        some (x4, q15.2))))
theorem m_firstFor_3_ok {lc : Launch} {κ : KX} {D : CX} {ad : Nat → Nat} {x1 x3 : Int} {v : Int × Wd} (X : gX κ D cX4_firstFor RX4 rmX4_firstFor lc 5) (Z : gQ κ D LAY ad (some .int) (some (iv v.1)) v.2 0 0) : ∀ (n : Nat) (x4 : Int) (w : Wd), m_firstFor_3 x1 x3 n x4 w = some v → G κ D LAY ad 0 0 w 3 [(0, .ref (ad 26)), (1, iv x1), (3, iv x3), (4, iv x4)] [] := by
  intro n
  induction n with
  | zero =>
    intro x4 w h
    cases h
  | succ n ih =>
    intro x4 w h
    rw [m_firstFor_3] at h
    refine g_iload X 3 dX4_firstFor_3 rfl ?_
    refine g_bipush X 120 dX4_firstFor_5 (by decide) ?_
    refine g_icmp_ge X h dX4_firstFor_7 (tgt := 30) (by decide) (fun h => ?_) (fun h => ?_)
    · refine g_iconst X dX4_firstFor_30 ?_
      exact g_iret X Z h dX4_firstFor_31
    · refine g_aload_n X 0 dX4_firstFor_10 rfl rfl ?_
      refine g_iload_n X 1 dX4_firstFor_11 rfl rfl ?_
      refine g_iload X 3 dX4_firstFor_12 rfl ?_
      refine g_iload_n X 2 dX4_firstFor_14 rfl rfl ?_
      obtain ⟨q15, e15, h⟩ := bindE h
      refine g_callVi X (st := []) 26 [iv x1, iv x4, iv x3] (mc_m_comes e15) cal_X4_comes rfl rfl wm_X4_78 (by decide) rfl rfl ⟨by decide, by decide⟩ rfl (Nat.le_of_ble_eq_true rfl) dX4_firstFor_15 ?_
      refine g_if_eq X h dX4_firstFor_18 (tgt := 24) (by decide) (fun h => ?_) (fun h => ?_)
      · refine g_iinc X 3 [1, 2, 3, 0] (ls1 := [(0, .ref (ad 26)), (1, iv x1), (3, iv x3), (4, iv (x4 + 1))]) dX4_firstFor_24 rfl (by decide) rfl ?_
        refine g_goto X (tgt := 3) dX4_firstFor_27 (by decide) ?_
        exact ih (x4 + 1) q15.2 h
      · refine g_iload X 3 dX4_firstFor_21 rfl ?_
        exact g_iret X Z h dX4_firstFor_23
noncomputable def m_firstFor (x1 x2 x3 : Int) (w : Wd) : Option (Int × Wd) :=
  (m_firstFor_3 x1 x3 FU x2 w)
theorem mc_m_firstFor {lc : Launch} {D : CX} {ad : Nat → Nat} {w : Wd} {x1 x2 x3 : Int} {v : Int × Wd} (h : m_firstFor x1 x2 x3 w = some v) : Mc lc yX4_firstFor cX4_firstFor 5 (some .int) rmX4_firstFor D LAY ad [.ref (ad 26), iv x1, iv x2, iv x3] w (some (iv v.1)) v.2 0 0 := by
  refine mc_of (by decide) (Nat.le_of_ble_eq_true rfl) ?_
  intro κ X Z
  show G κ D LAY ad 0 0 w 0 [(0, .ref (ad 26)), (1, iv x1), (2, iv x2), (3, iv x3)] []
  unfold m_firstFor at h
  refine g_iload_n X 2 dX4_firstFor_0 rfl rfl ?_
  refine g_istore X [1, 2, 3, 4, 0] (ls1 := [(0, .ref (ad 26)), (1, iv x1), (2, iv x2), (3, iv x3), (4, iv x2)]) dX4_firstFor_1 (by decide) rfl ?_
  refine g_sub [0, 1, 3, 4] rfl ?_
  refine m_firstFor_3_ok X Z FU x2 w h

/-! TallShipsModel.first -/
noncomputable def m_first (x1 x2 x3 : Int) (w : Wd) : Option (Int × Wd) :=
  ((m_isShip x1 (wset w 26 10 0)).bind fun q7 =>
  (if wr q7.1 = 0 then
    some ((-1), q7.2)
  else
    ((m_isHour x2 q7.2).bind fun q14 =>
    (if wr q14.1 = 0 then
      some ((-1), q14.2)
    else
      ((m_in x3 0 1 q14.2).bind fun q23 =>
      (if wr q23.1 = 0 then
        some ((-1), q23.2)
      else
        (let j42 := fun (z42_0 : Int) => 
            ((m_firstFor x1 x2 z42_0 q23.2).bind fun q42 =>
            some (q42.1, q42.2))
        (if wr x3 = wr 1 then
          (j42 1)
        else
          (j42 0)))))))))
theorem mc_m_first {lc : Launch} {D : CX} {ad : Nat → Nat} {w : Wd} {x1 x2 x3 : Int} {v : Int × Wd} (h : m_first x1 x2 x3 w = some v) : Mc lc yX4_first cX4_first 4 (some .int) rmX4_first D LAY ad [.ref (ad 26), iv x1, iv x2, iv x3] w (some (iv v.1)) v.2 0 0 := by
  refine mc_of (by decide) (Nat.le_of_ble_eq_true rfl) ?_
  intro κ X Z
  show G κ D LAY ad 0 0 w 0 [(0, .ref (ad 26)), (1, iv x1), (2, iv x2), (3, iv x3)] []
  unfold m_first at h
  refine g_aload_n X 0 dX4_first_0 rfl rfl ?_
  refine g_iconst X dX4_first_1 ?_
  refine gp_X4_50 X dX4_first_2 ?_
  refine g_aload_n X 0 dX4_first_5 rfl rfl ?_
  refine g_iload_n X 1 dX4_first_6 rfl rfl ?_
  obtain ⟨q7, e7, h⟩ := bindE h
  refine g_callVi X (st := []) 26 [iv x1] (mc_m_isShip e7) cal_X4_isShip rfl rfl wm_X4_72 (by decide) rfl rfl ⟨by decide, by decide⟩ rfl (Nat.le_of_ble_eq_true rfl) dX4_first_7 ?_
  refine g_if_eq X h dX4_first_10 (tgt := 48) (by decide) (fun h => ?_) (fun h => ?_)
  · refine g_iconst X dX4_first_48 ?_
    exact g_iret X Z h dX4_first_49
  · refine g_iload_n X 2 dX4_first_13 rfl rfl ?_
    obtain ⟨q14, e14, h⟩ := bindE h
    refine g_callSi X (st := []) [iv x2] (mc_m_isHour e14) cal_X4_isHour wm_X4_68 (by decide) rfl rfl ⟨by decide, by decide⟩ rfl (Nat.le_of_ble_eq_true rfl) dX4_first_14 ?_
    refine g_if_eq X h dX4_first_17 (tgt := 48) (by decide) (fun h => ?_) (fun h => ?_)
    · refine g_iconst X dX4_first_48 ?_
      exact g_iret X Z h dX4_first_49
    · refine g_iload_n X 3 dX4_first_20 rfl rfl ?_
      refine g_iconst X dX4_first_21 ?_
      refine g_iconst X dX4_first_22 ?_
      obtain ⟨q23, e23, h⟩ := bindE h
      refine g_callSi X (st := []) [iv x3, iv 0, iv 1] (mc_m_in e23) cal_X4_in wm_X4_57 (by decide) rfl rfl ⟨by decide, by decide⟩ rfl (Nat.le_of_ble_eq_true rfl) dX4_first_23 ?_
      refine g_if_eq X h dX4_first_26 (tgt := 48) (by decide) (fun h => ?_) (fun h => ?_)
      · refine g_iconst X dX4_first_48 ?_
        exact g_iret X Z h dX4_first_49
      · refine g_aload_n X 0 dX4_first_29 rfl rfl ?_
        refine g_iload_n X 1 dX4_first_30 rfl rfl ?_
        refine g_iload_n X 2 dX4_first_31 rfl rfl ?_
        refine g_iload_n X 3 dX4_first_32 rfl rfl ?_
        refine g_iconst X dX4_first_33 ?_
        let j42 := fun (z42_0 : Int) => (((m_firstFor x1 x2 z42_0 q23.2).bind fun q42 =>
        some (q42.1, q42.2)))
        have J42 : ∀ (z42_0 : Int), (((m_firstFor x1 x2 z42_0 q23.2).bind fun q42 =>
        some (q42.1, q42.2))) = some v → G κ D LAY ad 0 0 q23.2 42 [] [iv z42_0, iv x2, iv x1, .ref (ad 26)] := by
          intro z42_0 h
          obtain ⟨q42, e42, h⟩ := bindE h
          refine g_callVi X (st := []) 26 [iv x1, iv x2, iv z42_0] (mc_m_firstFor e42) cal_X4_firstFor rfl rfl wm_X4_82 (by decide) rfl rfl ⟨by decide, by decide⟩ rfl (Nat.le_of_ble_eq_true rfl) dX4_first_42 ?_
          refine g_goto X (tgt := 49) dX4_first_45 (by decide) ?_
          exact g_iret X Z h dX4_first_49
        refine g_icmp_ne X h dX4_first_34 (tgt := 41) (by decide) (fun h => ?_) (fun h => ?_)
        · refine g_iconst X dX4_first_41 ?_
          refine g_sub [] rfl ?_
          exact J42 0 h
        · refine g_iconst X dX4_first_37 ?_
          refine g_goto X (tgt := 42) dX4_first_38 (by decide) ?_
          refine g_sub [] rfl ?_
          exact J42 1 h

/-! TallShipsModel.isAbove -/
noncomputable def m_isAbove (x1 : Int) (w : Wd) : Option (Int × Wd) :=
  (if 0 ≤ ((5 * x1) + 2) ∧ ((5 * x1) + 2) < 20 then
  (if wr (w 31 ((5 * x1) + 2).toNat) = wr 1 then
    some (1, w)
  else
    some (0, w))
  else none)
theorem mc_m_isAbove {lc : Launch} {D : CX} {ad : Nat → Nat} {w : Wd} {x1 : Int} {v : Int × Wd} (h : m_isAbove x1 w = some v) : Mc lc yX4_isAbove cX4_isAbove 2 (some .boolean) rmX4_isAbove D LAY ad [.ref (ad 26), iv x1] w (some (iv v.1)) v.2 0 0 := by
  refine mc_of (by decide) (Nat.le_of_ble_eq_true rfl) ?_
  intro κ X Z
  show G κ D LAY ad 0 0 w 0 [(0, .ref (ad 26)), (1, iv x1)] []
  unfold m_isAbove at h
  refine g_aload_n X 0 dX4_isAbove_0 rfl rfl ?_
  refine gf_X4_22 X dX4_isAbove_1 ?_
  refine g_iconst X dX4_isAbove_4 ?_
  refine g_iload_n X 1 dX4_isAbove_5 rfl rfl ?_
  refine g_imul X dX4_isAbove_6 ?_
  refine g_iconst X dX4_isAbove_7 ?_
  refine g_iadd X dX4_isAbove_8 ?_
  refine g_iald X (n := 20) (c := 31) h rfl (by decide) dX4_isAbove_9 (fun h => ?_)
  refine g_iconst X dX4_isAbove_10 ?_
  refine g_icmp_ne X h dX4_isAbove_11 (tgt := 18) (by decide) (fun h => ?_) (fun h => ?_)
  · refine g_iconst X dX4_isAbove_18 ?_
    exact g_zretC X Z h (by decide) dX4_isAbove_19
  · refine g_iconst X dX4_isAbove_14 ?_
    refine g_goto X (tgt := 19) dX4_isAbove_15 (by decide) ?_
    exact g_zretC X Z h (by decide) dX4_isAbove_19

/-! TallShipsModel.whyNot -/
noncomputable def m_whyNot (x1 x2 : Int) (w : Wd) : Option (Int × Wd) :=
  (if 0 ≤ ((5 * x2) + 1) ∧ ((5 * x2) + 1) < 20 then
  ((m_least w).bind fun q11 =>
  (if 0 ≤ ((7 * x1) + 1) ∧ ((7 * x1) + 1) < 49 then
  (if wr ((q11.2 30 ((7 * x1) + 1).toNat) + (q11.2 28 2)) ≤ wr ((w 31 ((5 * x2) + 1).toNat) + q11.1) then
    (if 0 ≤ ((7 * x1) + 5) ∧ ((7 * x1) + 5) < 49 then
    ((m_isAbove x2 q11.2).bind fun q53 =>
    ((m_firstFor x1 (q11.2 30 ((7 * x1) + 5).toNat) q53.1 q53.2).bind fun q56 =>
    (if wr q56.1 = wr (-1) then
      some (2, q56.2)
    else
      some (0, q56.2))))
    else none)
  else
    some (1, q11.2))
  else none))
  else none)
theorem mc_m_whyNot {lc : Launch} {D : CX} {ad : Nat → Nat} {w : Wd} {x1 x2 : Int} {v : Int × Wd} (h : m_whyNot x1 x2 w = some v) : Mc lc yX4_whyNot cX4_whyNot 3 (some .int) rmX4_whyNot D LAY ad [.ref (ad 26), iv x1, iv x2] w (some (iv v.1)) v.2 0 0 := by
  refine mc_of (by decide) (Nat.le_of_ble_eq_true rfl) ?_
  intro κ X Z
  show G κ D LAY ad 0 0 w 0 [(0, .ref (ad 26)), (1, iv x1), (2, iv x2)] []
  unfold m_whyNot at h
  refine g_aload_n X 0 dX4_whyNot_0 rfl rfl ?_
  refine gf_X4_22 X dX4_whyNot_1 ?_
  refine g_iconst X dX4_whyNot_4 ?_
  refine g_iload_n X 2 dX4_whyNot_5 rfl rfl ?_
  refine g_imul X dX4_whyNot_6 ?_
  refine g_iconst X dX4_whyNot_7 ?_
  refine g_iadd X dX4_whyNot_8 ?_
  refine g_iald X (n := 20) (c := 31) h rfl (by decide) dX4_whyNot_9 (fun h => ?_)
  refine g_aload_n X 0 dX4_whyNot_10 rfl rfl ?_
  obtain ⟨q11, e11, h⟩ := bindE h
  refine g_callVi X (st := [iv (w 31 ((5 * x2) + 1).toNat)]) 26 [] (mc_m_least e11) cal_X4_least rfl rfl wm_X4_86 (by decide) rfl rfl ⟨by decide, by decide⟩ rfl (Nat.le_of_ble_eq_true rfl) dX4_whyNot_11 ?_
  refine g_iadd X dX4_whyNot_14 ?_
  refine g_aload_n X 0 dX4_whyNot_15 rfl rfl ?_
  refine gf_X4_19 X dX4_whyNot_16 ?_
  refine g_bipush X 7 dX4_whyNot_19 (by decide) ?_
  refine g_iload_n X 1 dX4_whyNot_21 rfl rfl ?_
  refine g_imul X dX4_whyNot_22 ?_
  refine g_iconst X dX4_whyNot_23 ?_
  refine g_iadd X dX4_whyNot_24 ?_
  refine g_iald X (n := 49) (c := 30) h rfl (by decide) dX4_whyNot_25 (fun h => ?_)
  refine g_aload_n X 0 dX4_whyNot_26 rfl rfl ?_
  refine gf_X4_13 X dX4_whyNot_27 ?_
  refine g_iconst X dX4_whyNot_30 ?_
  refine g_ialdC X 2 (n := 5) (c := 28) (by decide) (by decide) rfl (by decide) dX4_whyNot_31 ?_
  refine g_iadd X dX4_whyNot_32 ?_
  refine g_icmp_ge X h dX4_whyNot_33 (tgt := 38) (by decide) (fun h => ?_) (fun h => ?_)
  · refine g_aload_n X 0 dX4_whyNot_38 rfl rfl ?_
    refine g_iload_n X 1 dX4_whyNot_39 rfl rfl ?_
    refine g_aload_n X 0 dX4_whyNot_40 rfl rfl ?_
    refine gf_X4_19 X dX4_whyNot_41 ?_
    refine g_bipush X 7 dX4_whyNot_44 (by decide) ?_
    refine g_iload_n X 1 dX4_whyNot_46 rfl rfl ?_
    refine g_imul X dX4_whyNot_47 ?_
    refine g_iconst X dX4_whyNot_48 ?_
    refine g_iadd X dX4_whyNot_49 ?_
    refine g_iald X (n := 49) (c := 30) h rfl (by decide) dX4_whyNot_50 (fun h => ?_)
    refine g_aload_n X 0 dX4_whyNot_51 rfl rfl ?_
    refine g_iload_n X 2 dX4_whyNot_52 rfl rfl ?_
    obtain ⟨q53, e53, h⟩ := bindE h
    refine g_callVi X (st := [iv (q11.2 30 ((7 * x1) + 5).toNat), iv x1, .ref (ad 26)]) 26 [iv x2] (mc_m_isAbove e53) cal_X4_isAbove rfl rfl wm_X4_90 (by decide) rfl rfl ⟨by decide, by decide⟩ rfl (Nat.le_of_ble_eq_true rfl) dX4_whyNot_53 ?_
    obtain ⟨q56, e56, h⟩ := bindE h
    refine g_callVi X (st := []) 26 [iv x1, iv (q11.2 30 ((7 * x1) + 5).toNat), iv q53.1] (mc_m_firstFor e56) cal_X4_firstFor rfl rfl wm_X4_82 (by decide) rfl rfl ⟨by decide, by decide⟩ rfl (Nat.le_of_ble_eq_true rfl) dX4_whyNot_56 ?_
    refine g_iconst X dX4_whyNot_59 ?_
    refine g_icmp_ne X h dX4_whyNot_60 (tgt := 67) (by decide) (fun h => ?_) (fun h => ?_)
    · refine g_iconst X dX4_whyNot_67 ?_
      exact g_iret X Z h dX4_whyNot_68
    · refine g_iconst X dX4_whyNot_63 ?_
      refine g_goto X (tgt := 68) dX4_whyNot_64 (by decide) ?_
      exact g_iret X Z h dX4_whyNot_68
  · refine g_iconst X dX4_whyNot_36 ?_
    exact g_iret X Z h dX4_whyNot_37

/-! TallShipsModel.may -/
noncomputable def m_may (x1 x2 : Int) (w : Wd) : Option (Int × Wd) :=
  ((m_isShip x1 (wset w 26 10 0)).bind fun q7 =>
  (if wr q7.1 = 0 then
    some ((-1), q7.2)
  else
    ((m_isQuay x2 q7.2).bind fun q15 =>
    (if wr q15.1 = 0 then
      some ((-1), q15.2)
    else
      ((m_whyNot x1 x2 q15.2).bind fun q24 =>
      some (q24.1, q24.2))))))
theorem mc_m_may {lc : Launch} {D : CX} {ad : Nat → Nat} {w : Wd} {x1 x2 : Int} {v : Int × Wd} (h : m_may x1 x2 w = some v) : Mc lc yX4_may cX4_may 3 (some .int) rmX4_may D LAY ad [.ref (ad 26), iv x1, iv x2] w (some (iv v.1)) v.2 0 0 := by
  refine mc_of (by decide) (Nat.le_of_ble_eq_true rfl) ?_
  intro κ X Z
  show G κ D LAY ad 0 0 w 0 [(0, .ref (ad 26)), (1, iv x1), (2, iv x2)] []
  unfold m_may at h
  refine g_aload_n X 0 dX4_may_0 rfl rfl ?_
  refine g_iconst X dX4_may_1 ?_
  refine gp_X4_50 X dX4_may_2 ?_
  refine g_aload_n X 0 dX4_may_5 rfl rfl ?_
  refine g_iload_n X 1 dX4_may_6 rfl rfl ?_
  obtain ⟨q7, e7, h⟩ := bindE h
  refine g_callVi X (st := []) 26 [iv x1] (mc_m_isShip e7) cal_X4_isShip rfl rfl wm_X4_72 (by decide) rfl rfl ⟨by decide, by decide⟩ rfl (Nat.le_of_ble_eq_true rfl) dX4_may_7 ?_
  refine g_if_eq X h dX4_may_10 (tgt := 30) (by decide) (fun h => ?_) (fun h => ?_)
  · refine g_iconst X dX4_may_30 ?_
    exact g_iret X Z h dX4_may_31
  · refine g_aload_n X 0 dX4_may_13 rfl rfl ?_
    refine g_iload_n X 2 dX4_may_14 rfl rfl ?_
    obtain ⟨q15, e15, h⟩ := bindE h
    refine g_callVi X (st := []) 26 [iv x2] (mc_m_isQuay e15) cal_X4_isQuay rfl rfl wm_X4_93 (by decide) rfl rfl ⟨by decide, by decide⟩ rfl (Nat.le_of_ble_eq_true rfl) dX4_may_15 ?_
    refine g_if_eq X h dX4_may_18 (tgt := 30) (by decide) (fun h => ?_) (fun h => ?_)
    · refine g_iconst X dX4_may_30 ?_
      exact g_iret X Z h dX4_may_31
    · refine g_aload_n X 0 dX4_may_21 rfl rfl ?_
      refine g_iload_n X 1 dX4_may_22 rfl rfl ?_
      refine g_iload_n X 2 dX4_may_23 rfl rfl ?_
      obtain ⟨q24, e24, h⟩ := bindE h
      refine g_callVi X (st := []) 26 [iv x1, iv x2] (mc_m_whyNot e24) cal_X4_whyNot rfl rfl wm_X4_96 (by decide) rfl rfl ⟨by decide, by decide⟩ rfl (Nat.le_of_ble_eq_true rfl) dX4_may_24 ?_
      refine g_goto X (tgt := 31) dX4_may_27 (by decide) ?_
      exact g_iret X Z h dX4_may_31

/-! TallShipsModel.show -/
noncomputable def m_show_6 (c1 : Nat) (x3 : Int) : Nat → Int → Int → Wd → Option (Int × Wd)
  | 0, _, _, _ => none
  | n + 1, x4, x5, w =>
    (if wr x3 ≤ wr x5 then
      some (x4, w)
    else
      (if 0 ≤ x5 ∧ x5 < 7 then
      (if wr (w c1 x5.toNat) = wr (-1) then
        (m_show_6 c1 x3 n x4 (x5 + 1) w)
      else
        (if 0 ≤ ((7 * x5) + 3) ∧ ((7 * x5) + 3) < 49 then
        (if 0 ≤ x5 ∧ x5 < 7 then
        (if 0 ≤ ((5 * (w c1 x5.toNat)) + 3) ∧ ((5 * (w c1 x5.toNat)) + 3) < 20 then
        (m_show_6 c1 x3 n (x4 + ((w 30 ((7 * x5) + 3).toNat) * (w 31 ((5 * (w c1 x5.toNat)) + 3).toNat))) (x5 + 1) w)
        else none)
        else none)
        else none))
      else none))
theorem m_show_6_ok {lc : Launch} {κ : KX} {D : CX} {ad : Nat → Nat} {c1 : Nat} {x3 : Int} {v : Int × Wd} (X : gX κ D cX4_show RX4 rmX4_show lc 6) (Z : gQ κ D LAY ad (some .int) (some (iv v.1)) v.2 0 0) (hc1 : LAY[c1]? = some (.inl (0, 7))) : ∀ (n : Nat) (x4 : Int) (x5 : Int) (w : Wd), m_show_6 c1 x3 n x4 x5 w = some v → G κ D LAY ad 0 0 w 6 [(0, .ref (ad 30)), (1, .ref (ad 31)), (2, .ref (ad c1)), (3, iv x3), (4, iv x4), (5, iv x5)] [] := by
  intro n
  induction n with
  | zero =>
    intro x4 x5 w h
    cases h
  | succ n ih =>
    intro x4 x5 w h
    rw [m_show_6] at h
    refine g_iload X 5 dX4_show_6 rfl ?_
    refine g_iload_n X 3 dX4_show_8 rfl rfl ?_
    refine g_icmp_ge X h dX4_show_9 (tgt := 51) (by decide) (fun h => ?_) (fun h => ?_)
    · refine g_iload X 4 dX4_show_51 rfl ?_
      exact g_iret X Z h dX4_show_53
    · refine g_aload_n X 2 dX4_show_12 rfl rfl ?_
      refine g_iload X 5 dX4_show_13 rfl ?_
      refine g_iald X (n := 7) (c := c1) h hc1 (by decide) dX4_show_15 (fun h => ?_)
      refine g_iconst X dX4_show_16 ?_
      refine g_icmp_eq X h dX4_show_17 (tgt := 45) (by decide) (fun h => ?_) (fun h => ?_)
      · refine g_iinc X 5 [1, 2, 3, 4, 5, 0] (ls1 := [(0, .ref (ad 30)), (1, .ref (ad 31)), (2, .ref (ad c1)), (3, iv x3), (4, iv x4), (5, iv (x5 + 1))]) dX4_show_45 rfl (by decide) rfl ?_
        refine g_goto X (tgt := 6) dX4_show_48 (by decide) ?_
        exact ih x4 (x5 + 1) w h
      · refine g_iload X 4 dX4_show_20 rfl ?_
        refine g_aload_n X 0 dX4_show_22 rfl rfl ?_
        refine g_bipush X 7 dX4_show_23 (by decide) ?_
        refine g_iload X 5 dX4_show_25 rfl ?_
        refine g_imul X dX4_show_27 ?_
        refine g_iconst X dX4_show_28 ?_
        refine g_iadd X dX4_show_29 ?_
        refine g_iald X (n := 49) (c := 30) h rfl (by decide) dX4_show_30 (fun h => ?_)
        refine g_aload_n X 1 dX4_show_31 rfl rfl ?_
        refine g_iconst X dX4_show_32 ?_
        refine g_aload_n X 2 dX4_show_33 rfl rfl ?_
        refine g_iload X 5 dX4_show_34 rfl ?_
        refine g_iald X (n := 7) (c := c1) h hc1 (by decide) dX4_show_36 (fun h => ?_)
        refine g_imul X dX4_show_37 ?_
        refine g_iconst X dX4_show_38 ?_
        refine g_iadd X dX4_show_39 ?_
        refine g_iald X (n := 20) (c := 31) h rfl (by decide) dX4_show_40 (fun h => ?_)
        refine g_imul X dX4_show_41 ?_
        refine g_iadd X dX4_show_42 ?_
        refine g_istore X [1, 2, 3, 4, 0, 5] (ls1 := [(0, .ref (ad 30)), (1, .ref (ad 31)), (2, .ref (ad c1)), (3, iv x3), (4, iv (x4 + ((w 30 ((7 * x5) + 3).toNat) * (w 31 ((5 * (w c1 x5.toNat)) + 3).toNat)))), (5, iv x5)]) dX4_show_43 (by decide) rfl ?_
        refine g_iinc X 5 [1, 2, 3, 4, 5, 0] (ls1 := [(0, .ref (ad 30)), (1, .ref (ad 31)), (2, .ref (ad c1)), (3, iv x3), (4, iv (x4 + ((w 30 ((7 * x5) + 3).toNat) * (w 31 ((5 * (w c1 x5.toNat)) + 3).toNat)))), (5, iv (x5 + 1))]) dX4_show_45 rfl (by decide) rfl ?_
        refine g_goto X (tgt := 6) dX4_show_48 (by decide) ?_
        exact ih (x4 + ((w 30 ((7 * x5) + 3).toNat) * (w 31 ((5 * (w c1 x5.toNat)) + 3).toNat))) (x5 + 1) w h
noncomputable def m_show (c1 : Nat) (x3 : Int) (w : Wd) : Option (Int × Wd) :=
  (m_show_6 c1 x3 FU 0 0 w)
theorem mc_m_show {lc : Launch} {D : CX} {ad : Nat → Nat} {w : Wd} {c1 : Nat} {x3 : Int} {v : Int × Wd} (hc1 : LAY[c1]? = some (.inl (0, 7))) (h : m_show c1 x3 w = some v) : Mc lc yX4_show cX4_show 6 (some .int) rmX4_show D LAY ad [.ref (ad 30), .ref (ad 31), .ref (ad c1), iv x3] w (some (iv v.1)) v.2 0 0 := by
  refine mc_of (by decide) (Nat.le_of_ble_eq_true rfl) ?_
  intro κ X Z
  show G κ D LAY ad 0 0 w 0 [(0, .ref (ad 30)), (1, .ref (ad 31)), (2, .ref (ad c1)), (3, iv x3)] []
  unfold m_show at h
  refine g_iconst X dX4_show_0 ?_
  refine g_istore X [1, 2, 3, 4, 0] (ls1 := [(0, .ref (ad 30)), (1, .ref (ad 31)), (2, .ref (ad c1)), (3, iv x3), (4, iv 0)]) dX4_show_1 (by decide) rfl ?_
  refine g_iconst X dX4_show_3 ?_
  refine g_istore X [1, 2, 3, 4, 5, 0] (ls1 := [(0, .ref (ad 30)), (1, .ref (ad 31)), (2, .ref (ad c1)), (3, iv x3), (4, iv 0), (5, iv 0)]) dX4_show_4 (by decide) rfl ?_
  refine m_show_6_ok X Z hc1 FU 0 0 w h

/-! TallShipsModel.berthed -/
noncomputable def m_berthed_4 (c1 : Nat) : Nat → Int → Int → Wd → Option (Int × Wd)
  | 0, _, _, _ => none
  | n + 1, x2, x3, w =>
    (if wr (w 26 4) ≤ wr x3 then
      some (x2, w)
    else
      (if 0 ≤ x3 ∧ x3 < 7 then
      (if wr (w c1 x3.toNat) = wr (-1) then
        (m_berthed_4 c1 n x2 (x3 + 1) w)
      else
        (m_berthed_4 c1 n (x2 + 1) (x3 + 1) w))
      else none))
theorem m_berthed_4_ok {lc : Launch} {κ : KX} {D : CX} {ad : Nat → Nat} {c1 : Nat} {v : Int × Wd} (X : gX κ D cX4_berthed RX4 rmX4_berthed lc 4) (Z : gQ κ D LAY ad (some .int) (some (iv v.1)) v.2 0 0) (hc1 : LAY[c1]? = some (.inl (0, 7))) : ∀ (n : Nat) (x2 : Int) (x3 : Int) (w : Wd), m_berthed_4 c1 n x2 x3 w = some v → G κ D LAY ad 0 0 w 4 [(0, .ref (ad 26)), (1, .ref (ad c1)), (2, iv x2), (3, iv x3)] [] := by
  intro n
  induction n with
  | zero =>
    intro x2 x3 w h
    cases h
  | succ n ih =>
    intro x2 x3 w h
    rw [m_berthed_4] at h
    refine g_iload_n X 3 dX4_berthed_4 rfl rfl ?_
    refine g_aload_n X 0 dX4_berthed_5 rfl rfl ?_
    refine gf_X4_54 X dX4_berthed_6 ?_
    refine g_icmp_ge X h dX4_berthed_9 (tgt := 28) (by decide) (fun h => ?_) (fun h => ?_)
    · refine g_iload_n X 2 dX4_berthed_28 rfl rfl ?_
      exact g_iret X Z h dX4_berthed_29
    · refine g_aload_n X 1 dX4_berthed_12 rfl rfl ?_
      refine g_iload_n X 3 dX4_berthed_13 rfl rfl ?_
      refine g_iald X (n := 7) (c := c1) h hc1 (by decide) dX4_berthed_14 (fun h => ?_)
      refine g_iconst X dX4_berthed_15 ?_
      refine g_icmp_eq X h dX4_berthed_16 (tgt := 22) (by decide) (fun h => ?_) (fun h => ?_)
      · refine g_iinc X 3 [1, 2, 3, 0] (ls1 := [(0, .ref (ad 26)), (1, .ref (ad c1)), (2, iv x2), (3, iv (x3 + 1))]) dX4_berthed_22 rfl (by decide) rfl ?_
        refine g_goto X (tgt := 4) dX4_berthed_25 (by decide) ?_
        exact ih x2 (x3 + 1) w h
      · refine g_iinc X 2 [1, 2, 0, 3] (ls1 := [(0, .ref (ad 26)), (1, .ref (ad c1)), (2, iv (x2 + 1)), (3, iv x3)]) dX4_berthed_19 rfl (by decide) rfl ?_
        refine g_iinc X 3 [1, 2, 3, 0] (ls1 := [(0, .ref (ad 26)), (1, .ref (ad c1)), (2, iv (x2 + 1)), (3, iv (x3 + 1))]) dX4_berthed_22 rfl (by decide) rfl ?_
        refine g_goto X (tgt := 4) dX4_berthed_25 (by decide) ?_
        exact ih (x2 + 1) (x3 + 1) w h
noncomputable def m_berthed (c1 : Nat) (w : Wd) : Option (Int × Wd) :=
  (m_berthed_4 c1 FU 0 0 w)
theorem mc_m_berthed {lc : Launch} {D : CX} {ad : Nat → Nat} {w : Wd} {c1 : Nat} {v : Int × Wd} (hc1 : LAY[c1]? = some (.inl (0, 7))) (h : m_berthed c1 w = some v) : Mc lc yX4_berthed cX4_berthed 4 (some .int) rmX4_berthed D LAY ad [.ref (ad 26), .ref (ad c1)] w (some (iv v.1)) v.2 0 0 := by
  refine mc_of (by decide) (Nat.le_of_ble_eq_true rfl) ?_
  intro κ X Z
  show G κ D LAY ad 0 0 w 0 [(0, .ref (ad 26)), (1, .ref (ad c1))] []
  unfold m_berthed at h
  refine g_iconst X dX4_berthed_0 ?_
  refine g_istore_n X [1, 2, 0] (ls1 := [(0, .ref (ad 26)), (1, .ref (ad c1)), (2, iv 0)]) dX4_berthed_1 rfl (by decide) rfl ?_
  refine g_iconst X dX4_berthed_2 ?_
  refine g_istore_n X [1, 2, 3, 0] (ls1 := [(0, .ref (ad 26)), (1, .ref (ad c1)), (2, iv 0), (3, iv 0)]) dX4_berthed_3 rfl (by decide) rfl ?_
  refine m_berthed_4_ok X Z hc1 FU 0 0 w h

/-! TallShipsModel.count -/
noncomputable def m_count (x1 : Int) (w : Wd) : Option (Int × Wd) :=
  (if wr x1 = 0 then
    some (((wset w 26 10 0) 26 4), (wset w 26 10 0))
  else
  (if wr x1 = 1 then
    some (((wset w 26 10 0) 26 6), (wset w 26 10 0))
  else
  (if wr x1 = 2 then
    ((m_berthed 33 (wset w 26 10 0)).bind fun q59 =>
    some (q59.1, q59.2))
  else
  (if wr x1 = 3 then
    ((m_show 33 ((wset w 26 10 0) 26 4) (wset w 26 10 0)).bind fun q79 =>
    some (q79.1, q79.2))
  else
  (if wr x1 = 4 then
    ((m_least (wset w 26 10 0)).bind fun q84 =>
    some (q84.1, q84.2))
  else
  (if wr x1 = 5 then
    ((m_greatest (wset w 26 10 0)).bind fun q89 =>
    some (q89.1, q89.2))
  else
    some ((-1), (wset w 26 10 0))))))))
theorem mc_m_count {lc : Launch} {D : CX} {ad : Nat → Nat} {w : Wd} {x1 : Int} {v : Int × Wd} (h : m_count x1 w = some v) : Mc lc yX4_count cX4_count 2 (some .int) rmX4_count D LAY ad [.ref (ad 26), iv x1] w (some (iv v.1)) v.2 0 0 := by
  refine mc_of (by decide) (Nat.le_of_ble_eq_true rfl) ?_
  intro κ X Z
  show G κ D LAY ad 0 0 w 0 [(0, .ref (ad 26)), (1, iv x1)] []
  unfold m_count at h
  refine g_aload_n X 0 dX4_count_0 rfl rfl ?_
  refine g_iconst X dX4_count_1 ?_
  refine gp_X4_50 X dX4_count_2 ?_
  refine g_iload_n X 1 dX4_count_5 rfl rfl ?_
  by_cases e6_0 : wr x1 = 0
  · rw [if_pos e6_0] at h
    refine g_tableIn X 0 e6_0 dX4_count_6 (by decide) (by decide) rfl (tgt := 44) (by decide) ?_
    refine g_aload_n X 0 dX4_count_44 rfl rfl ?_
    refine gf_X4_54 X dX4_count_45 ?_
    exact g_iret X Z h dX4_count_48
  rw [if_neg e6_0] at h
  by_cases e6_1 : wr x1 = 1
  · rw [if_pos e6_1] at h
    refine g_tableIn X 1 e6_1 dX4_count_6 (by decide) (by decide) rfl (tgt := 49) (by decide) ?_
    refine g_aload_n X 0 dX4_count_49 rfl rfl ?_
    refine gf_X4_61 X dX4_count_50 ?_
    exact g_iret X Z h dX4_count_53
  rw [if_neg e6_1] at h
  by_cases e6_2 : wr x1 = 2
  · rw [if_pos e6_2] at h
    refine g_tableIn X 2 e6_2 dX4_count_6 (by decide) (by decide) rfl (tgt := 54) (by decide) ?_
    refine g_aload_n X 0 dX4_count_54 rfl rfl ?_
    refine g_aload_n X 0 dX4_count_55 rfl rfl ?_
    refine gf_X4_29 X dX4_count_56 ?_
    obtain ⟨q59, e59, h⟩ := bindE h
    refine g_callVi X (st := []) 26 [.ref (ad 33)] (mc_m_berthed rfl e59) cal_X4_berthed rfl rfl wm_X4_100 (by decide) rfl rfl ⟨by decide, by decide⟩ rfl (Nat.le_of_ble_eq_true rfl) dX4_count_59 ?_
    exact g_iret X Z h dX4_count_62
  rw [if_neg e6_2] at h
  by_cases e6_3 : wr x1 = 3
  · rw [if_pos e6_3] at h
    refine g_tableIn X 3 e6_3 dX4_count_6 (by decide) (by decide) rfl (tgt := 63) (by decide) ?_
    refine g_aload_n X 0 dX4_count_63 rfl rfl ?_
    refine gf_X4_19 X dX4_count_64 ?_
    refine g_aload_n X 0 dX4_count_67 rfl rfl ?_
    refine gf_X4_22 X dX4_count_68 ?_
    refine g_aload_n X 0 dX4_count_71 rfl rfl ?_
    refine gf_X4_29 X dX4_count_72 ?_
    refine g_aload_n X 0 dX4_count_75 rfl rfl ?_
    refine gf_X4_54 X dX4_count_76 ?_
    obtain ⟨q79, e79, h⟩ := bindE h
    refine g_callSi X (st := []) [.ref (ad 30), .ref (ad 31), .ref (ad 33), iv ((wset w 26 10 0) 26 4)] (mc_m_show rfl e79) cal_X4_show wm_X4_104 (by decide) rfl rfl ⟨by decide, by decide⟩ rfl (Nat.le_of_ble_eq_true rfl) dX4_count_79 ?_
    exact g_iret X Z h dX4_count_82
  rw [if_neg e6_3] at h
  by_cases e6_4 : wr x1 = 4
  · rw [if_pos e6_4] at h
    refine g_tableIn X 4 e6_4 dX4_count_6 (by decide) (by decide) rfl (tgt := 83) (by decide) ?_
    refine g_aload_n X 0 dX4_count_83 rfl rfl ?_
    obtain ⟨q84, e84, h⟩ := bindE h
    refine g_callVi X (st := []) 26 [] (mc_m_least e84) cal_X4_least rfl rfl wm_X4_86 (by decide) rfl rfl ⟨by decide, by decide⟩ rfl (Nat.le_of_ble_eq_true rfl) dX4_count_84 ?_
    exact g_iret X Z h dX4_count_87
  rw [if_neg e6_4] at h
  by_cases e6_5 : wr x1 = 5
  · rw [if_pos e6_5] at h
    refine g_tableIn X 5 e6_5 dX4_count_6 (by decide) (by decide) rfl (tgt := 88) (by decide) ?_
    refine g_aload_n X 0 dX4_count_88 rfl rfl ?_
    obtain ⟨q89, e89, h⟩ := bindE h
    refine g_callVi X (st := []) 26 [] (mc_m_greatest e89) cal_X4_greatest rfl rfl wm_X4_108 (by decide) rfl rfl ⟨by decide, by decide⟩ rfl (Nat.le_of_ble_eq_true rfl) dX4_count_89 ?_
    exact g_iret X Z h dX4_count_92
  rw [if_neg e6_5] at h
  refine g_tableOut X (by omega) dX4_count_6 (tgt := 93) (by decide) ?_
  refine g_iconst X dX4_count_93 ?_
  exact g_iret X Z h dX4_count_94

/-! TallShipsModel.put -/
noncomputable def m_put (x1 x2 : Int) (w : Wd) : Option (Int × Wd) :=
  ((m_isShip x1 (wset w 26 10 0)).bind fun q7 =>
  (if wr q7.1 = 0 then
    some (0, q7.2)
  else
    (let j28 := fun (w28 : Wd) => 
        (if 0 ≤ x1 ∧ x1 < 7 then
        some (1, (wset w28 33 x1.toNat x2))
        else none)
    (if wr x2 = wr (-1) then
      (j28 q7.2)
    else
      ((m_isQuay x2 q7.2).bind fun q20 =>
      (if wr q20.1 = 0 then
        some (0, q20.2)
      else
        (j28 q20.2)))))))
theorem mc_m_put {lc : Launch} {D : CX} {ad : Nat → Nat} {w : Wd} {x1 x2 : Int} {v : Int × Wd} (h : m_put x1 x2 w = some v) : Mc lc yX4_put cX4_put 3 (some .boolean) rmX4_put D LAY ad [.ref (ad 26), iv x1, iv x2] w (some (iv v.1)) v.2 0 0 := by
  refine mc_of (by decide) (Nat.le_of_ble_eq_true rfl) ?_
  intro κ X Z
  show G κ D LAY ad 0 0 w 0 [(0, .ref (ad 26)), (1, iv x1), (2, iv x2)] []
  unfold m_put at h
  refine g_aload_n X 0 dX4_put_0 rfl rfl ?_
  refine g_iconst X dX4_put_1 ?_
  refine gp_X4_50 X dX4_put_2 ?_
  refine g_aload_n X 0 dX4_put_5 rfl rfl ?_
  refine g_iload_n X 1 dX4_put_6 rfl rfl ?_
  obtain ⟨q7, e7, h⟩ := bindE h
  refine g_callVi X (st := []) 26 [iv x1] (mc_m_isShip e7) cal_X4_isShip rfl rfl wm_X4_72 (by decide) rfl rfl ⟨by decide, by decide⟩ rfl (Nat.le_of_ble_eq_true rfl) dX4_put_7 ?_
  refine g_if_eq X h dX4_put_10 (tgt := 26) (by decide) (fun h => ?_) (fun h => ?_)
  · refine g_iconst X dX4_put_26 ?_
    exact g_zretC X Z h (by decide) dX4_put_27
  · refine g_iload_n X 2 dX4_put_13 rfl rfl ?_
    refine g_iconst X dX4_put_14 ?_
    let j28 := fun (w28 : Wd) => ((if 0 ≤ x1 ∧ x1 < 7 then
    some (1, (wset w28 33 x1.toNat x2))
    else none))
    have J28 : ∀ (w28 : Wd), ((if 0 ≤ x1 ∧ x1 < 7 then
    some (1, (wset w28 33 x1.toNat x2))
    else none)) = some v → G κ D LAY ad 0 0 w28 28 [(0, .ref (ad 26)), (1, iv x1), (2, iv x2)] [] := by
      intro w28 h
      refine g_aload_n X 0 dX4_put_28 rfl rfl ?_
      refine gf_X4_29 X dX4_put_29 ?_
      refine g_iload_n X 1 dX4_put_32 rfl rfl ?_
      refine g_iload_n X 2 dX4_put_33 rfl rfl ?_
      refine g_iast X (n := 7) (c := 33) h rfl (by decide) dX4_put_34 (fun h => ?_)
      refine g_iconst X dX4_put_35 ?_
      exact g_zretC X Z h (by decide) dX4_put_36
    refine g_icmp_eq X h dX4_put_15 (tgt := 28) (by decide) (fun h => ?_) (fun h => ?_)
    · exact J28 q7.2 h
    · refine g_aload_n X 0 dX4_put_18 rfl rfl ?_
      refine g_iload_n X 2 dX4_put_19 rfl rfl ?_
      obtain ⟨q20, e20, h⟩ := bindE h
      refine g_callVi X (st := []) 26 [iv x2] (mc_m_isQuay e20) cal_X4_isQuay rfl rfl wm_X4_93 (by decide) rfl rfl ⟨by decide, by decide⟩ rfl (Nat.le_of_ble_eq_true rfl) dX4_put_20 ?_
      refine g_if_ne X h dX4_put_23 (tgt := 28) (by decide) (fun h => ?_) (fun h => ?_)
      · exact J28 q20.2 h
      · refine g_iconst X dX4_put_26 ?_
        exact g_zretC X Z h (by decide) dX4_put_27

/-! TallShipsModel.at -/
noncomputable def m_at (x1 : Int) (w : Wd) : Option (Int × Wd) :=
  ((m_isShip x1 (wset w 26 10 0)).bind fun q7 =>
  (if wr q7.1 = 0 then
    some (0, (wset q7.2 26 10 1))
  else
    (if 0 ≤ x1 ∧ x1 < 7 then
    some ((q7.2 33 x1.toNat), q7.2)
    else none)))
theorem mc_m_at {lc : Launch} {D : CX} {ad : Nat → Nat} {w : Wd} {x1 : Int} {v : Int × Wd} (h : m_at x1 w = some v) : Mc lc yX4_at cX4_at 2 (some .int) rmX4_at D LAY ad [.ref (ad 26), iv x1] w (some (iv v.1)) v.2 0 0 := by
  refine mc_of (by decide) (Nat.le_of_ble_eq_true rfl) ?_
  intro κ X Z
  show G κ D LAY ad 0 0 w 0 [(0, .ref (ad 26)), (1, iv x1)] []
  unfold m_at at h
  refine g_aload_n X 0 dX4_at_0 rfl rfl ?_
  refine g_iconst X dX4_at_1 ?_
  refine gp_X4_50 X dX4_at_2 ?_
  refine g_aload_n X 0 dX4_at_5 rfl rfl ?_
  refine g_iload_n X 1 dX4_at_6 rfl rfl ?_
  obtain ⟨q7, e7, h⟩ := bindE h
  refine g_callVi X (st := []) 26 [iv x1] (mc_m_isShip e7) cal_X4_isShip rfl rfl wm_X4_72 (by decide) rfl rfl ⟨by decide, by decide⟩ rfl (Nat.le_of_ble_eq_true rfl) dX4_at_7 ?_
  refine g_if_ne X h dX4_at_10 (tgt := 20) (by decide) (fun h => ?_) (fun h => ?_)
  · refine g_aload_n X 0 dX4_at_20 rfl rfl ?_
    refine gf_X4_29 X dX4_at_21 ?_
    refine g_iload_n X 1 dX4_at_24 rfl rfl ?_
    refine g_iald X (n := 7) (c := 33) h rfl (by decide) dX4_at_25 (fun h => ?_)
    exact g_iret X Z h dX4_at_26
  · refine g_aload_n X 0 dX4_at_13 rfl rfl ?_
    refine g_iconst X dX4_at_14 ?_
    refine gp_X4_50 X dX4_at_15 ?_
    refine g_iconst X dX4_at_18 ?_
    exact g_iret X Z h dX4_at_19

/-! TallShipsModel.room -/
noncomputable def m_room_15 (c1 : Nat) (x2 : Int) : Nat → Int → Int → Int → Wd → Option (Int × Wd)
  | 0, _, _, _, _ => none
  | n + 1, x3, x4, x5, w =>
    (if wr (w 26 4) ≤ wr x5 then
      some (x3, w)
    else
      (if 0 ≤ x5 ∧ x5 < 7 then
      (if wr (w c1 x5.toNat) = wr x2 then
        (if 0 ≤ (7 * x5) ∧ (7 * x5) < 49 then
        (if wr x4 ≤ 0 then
          (m_room_15 c1 x2 n (x3 - (w 30 (7 * x5).toNat)) (x4 + 1) (x5 + 1) w)
        else
          (m_room_15 c1 x2 n ((x3 - (w 30 (7 * x5).toNat)) - (w 28 3)) (x4 + 1) (x5 + 1) w))
        else none)
      else
        (m_room_15 c1 x2 n x3 x4 (x5 + 1) w))
      else none))
theorem m_room_15_ok {lc : Launch} {κ : KX} {D : CX} {ad : Nat → Nat} {c1 : Nat} {x2 : Int} {v : Int × Wd} (X : gX κ D cX4_room RX4 rmX4_room lc 6) (Z : gQ κ D LAY ad (some .int) (some (iv v.1)) v.2 0 0) (hc1 : LAY[c1]? = some (.inl (0, 7))) : ∀ (n : Nat) (x3 : Int) (x4 : Int) (x5 : Int) (w : Wd), m_room_15 c1 x2 n x3 x4 x5 w = some v → G κ D LAY ad 0 0 w 15 [(0, .ref (ad 26)), (1, .ref (ad c1)), (2, iv x2), (3, iv x3), (4, iv x4), (5, iv x5)] [] := by
  intro n
  induction n with
  | zero =>
    intro x3 x4 x5 w h
    cases h
  | succ n ih =>
    intro x3 x4 x5 w h
    rw [m_room_15] at h
    refine g_iload X 5 dX4_room_15 rfl ?_
    refine g_aload_n X 0 dX4_room_17 rfl rfl ?_
    refine gf_X4_54 X dX4_room_18 ?_
    refine g_icmp_ge X h dX4_room_21 (tgt := 71) (by decide) (fun h => ?_) (fun h => ?_)
    · refine g_iload_n X 3 dX4_room_71 rfl rfl ?_
      exact g_iret X Z h dX4_room_72
    · refine g_aload_n X 1 dX4_room_24 rfl rfl ?_
      refine g_iload X 5 dX4_room_25 rfl ?_
      refine g_iald X (n := 7) (c := c1) h hc1 (by decide) dX4_room_27 (fun h => ?_)
      refine g_iload_n X 2 dX4_room_28 rfl rfl ?_
      refine g_icmp_eq X h dX4_room_29 (tgt := 35) (by decide) (fun h => ?_) (fun h => ?_)
      · refine g_iload_n X 3 dX4_room_35 rfl rfl ?_
        refine g_aload_n X 0 dX4_room_36 rfl rfl ?_
        refine gf_X4_19 X dX4_room_37 ?_
        refine g_bipush X 7 dX4_room_40 (by decide) ?_
        refine g_iload X 5 dX4_room_42 rfl ?_
        refine g_imul X dX4_room_44 ?_
        refine g_iald X (n := 49) (c := 30) h rfl (by decide) dX4_room_45 (fun h => ?_)
        refine g_isub X dX4_room_46 ?_
        refine g_istore_n X [1, 2, 3, 0, 4, 5] (ls1 := [(0, .ref (ad 26)), (1, .ref (ad c1)), (2, iv x2), (3, iv (x3 - (w 30 (7 * x5).toNat))), (4, iv x4), (5, iv x5)]) dX4_room_47 rfl (by decide) rfl ?_
        refine g_iload X 4 dX4_room_48 rfl ?_
        refine g_if_le X h dX4_room_50 (tgt := 62) (by decide) (fun h => ?_) (fun h => ?_)
        · refine g_iinc X 4 [1, 2, 3, 4, 0, 5] (ls1 := [(0, .ref (ad 26)), (1, .ref (ad c1)), (2, iv x2), (3, iv (x3 - (w 30 (7 * x5).toNat))), (4, iv (x4 + 1)), (5, iv x5)]) dX4_room_62 rfl (by decide) rfl ?_
          refine g_iinc X 5 [1, 2, 3, 4, 5, 0] (ls1 := [(0, .ref (ad 26)), (1, .ref (ad c1)), (2, iv x2), (3, iv (x3 - (w 30 (7 * x5).toNat))), (4, iv (x4 + 1)), (5, iv (x5 + 1))]) dX4_room_65 rfl (by decide) rfl ?_
          refine g_goto X (tgt := 15) dX4_room_68 (by decide) ?_
          exact ih (x3 - (w 30 (7 * x5).toNat)) (x4 + 1) (x5 + 1) w h
        · refine g_iload_n X 3 dX4_room_53 rfl rfl ?_
          refine g_aload_n X 0 dX4_room_54 rfl rfl ?_
          refine gf_X4_13 X dX4_room_55 ?_
          refine g_iconst X dX4_room_58 ?_
          refine g_ialdC X 3 (n := 5) (c := 28) (by decide) (by decide) rfl (by decide) dX4_room_59 ?_
          refine g_isub X dX4_room_60 ?_
          refine g_istore_n X [1, 2, 3, 0, 4, 5] (ls1 := [(0, .ref (ad 26)), (1, .ref (ad c1)), (2, iv x2), (3, iv ((x3 - (w 30 (7 * x5).toNat)) - (w 28 3))), (4, iv x4), (5, iv x5)]) dX4_room_61 rfl (by decide) rfl ?_
          refine g_iinc X 4 [1, 2, 3, 4, 0, 5] (ls1 := [(0, .ref (ad 26)), (1, .ref (ad c1)), (2, iv x2), (3, iv ((x3 - (w 30 (7 * x5).toNat)) - (w 28 3))), (4, iv (x4 + 1)), (5, iv x5)]) dX4_room_62 rfl (by decide) rfl ?_
          refine g_iinc X 5 [1, 2, 3, 4, 5, 0] (ls1 := [(0, .ref (ad 26)), (1, .ref (ad c1)), (2, iv x2), (3, iv ((x3 - (w 30 (7 * x5).toNat)) - (w 28 3))), (4, iv (x4 + 1)), (5, iv (x5 + 1))]) dX4_room_65 rfl (by decide) rfl ?_
          refine g_goto X (tgt := 15) dX4_room_68 (by decide) ?_
          exact ih ((x3 - (w 30 (7 * x5).toNat)) - (w 28 3)) (x4 + 1) (x5 + 1) w h
      · refine g_goto X (tgt := 65) dX4_room_32 (by decide) ?_
        refine g_iinc X 5 [1, 2, 3, 4, 5, 0] (ls1 := [(0, .ref (ad 26)), (1, .ref (ad c1)), (2, iv x2), (3, iv x3), (4, iv x4), (5, iv (x5 + 1))]) dX4_room_65 rfl (by decide) rfl ?_
        refine g_goto X (tgt := 15) dX4_room_68 (by decide) ?_
        exact ih x3 x4 (x5 + 1) w h
noncomputable def m_room (c1 : Nat) (x2 : Int) (w : Wd) : Option (Int × Wd) :=
  (if 0 ≤ (5 * x2) ∧ (5 * x2) < 20 then
  (m_room_15 c1 x2 FU (w 31 (5 * x2).toNat) 0 0 w)
  else none)
theorem mc_m_room {lc : Launch} {D : CX} {ad : Nat → Nat} {w : Wd} {c1 : Nat} {x2 : Int} {v : Int × Wd} (hc1 : LAY[c1]? = some (.inl (0, 7))) (h : m_room c1 x2 w = some v) : Mc lc yX4_room cX4_room 6 (some .int) rmX4_room D LAY ad [.ref (ad 26), .ref (ad c1), iv x2] w (some (iv v.1)) v.2 0 0 := by
  refine mc_of (by decide) (Nat.le_of_ble_eq_true rfl) ?_
  intro κ X Z
  show G κ D LAY ad 0 0 w 0 [(0, .ref (ad 26)), (1, .ref (ad c1)), (2, iv x2)] []
  unfold m_room at h
  refine g_aload_n X 0 dX4_room_0 rfl rfl ?_
  refine gf_X4_22 X dX4_room_1 ?_
  refine g_iconst X dX4_room_4 ?_
  refine g_iload_n X 2 dX4_room_5 rfl rfl ?_
  refine g_imul X dX4_room_6 ?_
  refine g_iald X (n := 20) (c := 31) h rfl (by decide) dX4_room_7 (fun h => ?_)
  refine g_istore_n X [1, 2, 3, 0] (ls1 := [(0, .ref (ad 26)), (1, .ref (ad c1)), (2, iv x2), (3, iv (w 31 (5 * x2).toNat))]) dX4_room_8 rfl (by decide) rfl ?_
  refine g_iconst X dX4_room_9 ?_
  refine g_istore X [1, 2, 3, 4, 0] (ls1 := [(0, .ref (ad 26)), (1, .ref (ad c1)), (2, iv x2), (3, iv (w 31 (5 * x2).toNat)), (4, iv 0)]) dX4_room_10 (by decide) rfl ?_
  refine g_iconst X dX4_room_12 ?_
  refine g_istore X [1, 2, 3, 4, 5, 0] (ls1 := [(0, .ref (ad 26)), (1, .ref (ad c1)), (2, iv x2), (3, iv (w 31 (5 * x2).toNat)), (4, iv 0), (5, iv 0)]) dX4_room_13 (by decide) rfl ?_
  refine m_room_15_ok X Z hc1 FU (w 31 (5 * x2).toNat) 0 0 w h

/-! TallShipsModel.why -/
noncomputable def m_why_2 (c1 : Nat) (k1 : Wd → Option (Int × Wd)) : Nat → Int → Wd → Option (Int × Wd)
  | 0, _, _ => none
  | n + 1, x2, w =>
    (if wr (w 26 4) ≤ wr x2 then
      (k1 w)
    else
      (if 0 ≤ x2 ∧ x2 < 7 then
      (if wr (w c1 x2.toNat) = wr (-1) then
        (m_why_2 c1 k1 n (x2 + 1) w)
      else
        (if 0 ≤ x2 ∧ x2 < 7 then
        ((m_whyNot x2 (w c1 x2.toNat) w).bind fun q22 =>
        (if wr q22.1 ≤ 0 then
          (m_why_2 c1 k1 n (x2 + 1) q22.2)
        else
          some ((10 + x2), q22.2)))
        else none))
      else none))
theorem m_why_2_ok {lc : Launch} {κ : KX} {D : CX} {ad : Nat → Nat} {c1 : Nat} {k1 : Wd → Option (Int × Wd)} {v : Int × Wd} (X : gX κ D cX4_why RX4 rmX4_why lc 4) (Z : gQ κ D LAY ad (some .int) (some (iv v.1)) v.2 0 0) (hc1 : LAY[c1]? = some (.inl (0, 7))) (hk1 : ∀ (w : Wd), k1 w = some v → G κ D LAY ad 0 0 w 39 [(0, .ref (ad 26)), (1, .ref (ad c1))] []) : ∀ (n : Nat) (x2 : Int) (w : Wd), m_why_2 c1 k1 n x2 w = some v → G κ D LAY ad 0 0 w 2 [(0, .ref (ad 26)), (1, .ref (ad c1)), (2, iv x2)] [] := by
  intro n
  induction n with
  | zero =>
    intro x2 w h
    cases h
  | succ n ih =>
    intro x2 w h
    rw [m_why_2] at h
    refine g_iload_n X 2 dX4_why_2 rfl rfl ?_
    refine g_aload_n X 0 dX4_why_3 rfl rfl ?_
    refine gf_X4_54 X dX4_why_4 ?_
    refine g_icmp_ge X h dX4_why_7 (tgt := 39) (by decide) (fun h => ?_) (fun h => ?_)
    · refine g_sub [0, 1] rfl ?_
      exact hk1 w h
    · refine g_aload_n X 1 dX4_why_10 rfl rfl ?_
      refine g_iload_n X 2 dX4_why_11 rfl rfl ?_
      refine g_iald X (n := 7) (c := c1) h hc1 (by decide) dX4_why_12 (fun h => ?_)
      refine g_iconst X dX4_why_13 ?_
      refine g_icmp_eq X h dX4_why_14 (tgt := 33) (by decide) (fun h => ?_) (fun h => ?_)
      · refine g_iinc X 2 [1, 2, 0] (ls1 := [(0, .ref (ad 26)), (1, .ref (ad c1)), (2, iv (x2 + 1))]) dX4_why_33 rfl (by decide) rfl ?_
        refine g_goto X (tgt := 2) dX4_why_36 (by decide) ?_
        exact ih (x2 + 1) w h
      · refine g_aload_n X 0 dX4_why_17 rfl rfl ?_
        refine g_iload_n X 2 dX4_why_18 rfl rfl ?_
        refine g_aload_n X 1 dX4_why_19 rfl rfl ?_
        refine g_iload_n X 2 dX4_why_20 rfl rfl ?_
        refine g_iald X (n := 7) (c := c1) h hc1 (by decide) dX4_why_21 (fun h => ?_)
        obtain ⟨q22, e22, h⟩ := bindE h
        refine g_callVi X (st := []) 26 [iv x2, iv (w c1 x2.toNat)] (mc_m_whyNot e22) cal_X4_whyNot rfl rfl wm_X4_96 (by decide) rfl rfl ⟨by decide, by decide⟩ rfl (Nat.le_of_ble_eq_true rfl) dX4_why_22 ?_
        refine g_if_le X h dX4_why_25 (tgt := 33) (by decide) (fun h => ?_) (fun h => ?_)
        · refine g_iinc X 2 [1, 2, 0] (ls1 := [(0, .ref (ad 26)), (1, .ref (ad c1)), (2, iv (x2 + 1))]) dX4_why_33 rfl (by decide) rfl ?_
          refine g_goto X (tgt := 2) dX4_why_36 (by decide) ?_
          exact ih (x2 + 1) q22.2 h
        · refine g_bipush X 10 dX4_why_28 (by decide) ?_
          refine g_iload_n X 2 dX4_why_30 rfl rfl ?_
          refine g_iadd X dX4_why_31 ?_
          exact g_iret X Z h dX4_why_32
noncomputable def m_why_51 (c1 : Nat) (x2 : Int) (k1 : Wd → Option (Int × Wd)) : Nat → Int → Wd → Option (Int × Wd)
  | 0, _, _ => none
  | n + 1, x3, w =>
    (if wr (w 26 4) ≤ wr x3 then
      (k1 w)
    else
      (if 0 ≤ x2 ∧ x2 < 7 then
      (if wr (w c1 x2.toNat) = wr (-1) then
        (m_why_51 c1 x2 k1 n (x3 + 1) w)
      else
        (if 0 ≤ x3 ∧ x3 < 7 then
        (if 0 ≤ x2 ∧ x2 < 7 then
        (if wr (w c1 x3.toNat) = wr (w c1 x2.toNat) then
          (if 0 ≤ ((7 * x2) + x3) ∧ ((7 * x2) + x3) < 49 then
          (if wr (w 32 ((7 * x2) + x3).toNat) = 0 then
            (m_why_51 c1 x2 k1 n (x3 + 1) w)
          else
            some ((20 + x2), w))
          else none)
        else
          (m_why_51 c1 x2 k1 n (x3 + 1) w))
        else none)
        else none))
      else none))
theorem m_why_51_ok {lc : Launch} {κ : KX} {D : CX} {ad : Nat → Nat} {c1 : Nat} {x2 : Int} {k1 : Wd → Option (Int × Wd)} {v : Int × Wd} (X : gX κ D cX4_why RX4 rmX4_why lc 4) (Z : gQ κ D LAY ad (some .int) (some (iv v.1)) v.2 0 0) (hc1 : LAY[c1]? = some (.inl (0, 7))) (hk1 : ∀ (w : Wd), k1 w = some v → G κ D LAY ad 0 0 w 100 [(0, .ref (ad 26)), (1, .ref (ad c1)), (2, iv x2)] []) : ∀ (n : Nat) (x3 : Int) (w : Wd), m_why_51 c1 x2 k1 n x3 w = some v → G κ D LAY ad 0 0 w 51 [(0, .ref (ad 26)), (1, .ref (ad c1)), (2, iv x2), (3, iv x3)] [] := by
  intro n
  induction n with
  | zero =>
    intro x3 w h
    cases h
  | succ n ih =>
    intro x3 w h
    rw [m_why_51] at h
    refine g_iload_n X 3 dX4_why_51 rfl rfl ?_
    refine g_aload_n X 0 dX4_why_52 rfl rfl ?_
    refine gf_X4_54 X dX4_why_53 ?_
    refine g_icmp_ge X h dX4_why_56 (tgt := 100) (by decide) (fun h => ?_) (fun h => ?_)
    · refine g_sub [0, 1, 2] rfl ?_
      exact hk1 w h
    · refine g_aload_n X 1 dX4_why_59 rfl rfl ?_
      refine g_iload_n X 2 dX4_why_60 rfl rfl ?_
      refine g_iald X (n := 7) (c := c1) h hc1 (by decide) dX4_why_61 (fun h => ?_)
      refine g_iconst X dX4_why_62 ?_
      refine g_icmp_eq X h dX4_why_63 (tgt := 94) (by decide) (fun h => ?_) (fun h => ?_)
      · refine g_iinc X 3 [1, 2, 3, 0] (ls1 := [(0, .ref (ad 26)), (1, .ref (ad c1)), (2, iv x2), (3, iv (x3 + 1))]) dX4_why_94 rfl (by decide) rfl ?_
        refine g_goto X (tgt := 51) dX4_why_97 (by decide) ?_
        exact ih (x3 + 1) w h
      · refine g_aload_n X 1 dX4_why_66 rfl rfl ?_
        refine g_iload_n X 3 dX4_why_67 rfl rfl ?_
        refine g_iald X (n := 7) (c := c1) h hc1 (by decide) dX4_why_68 (fun h => ?_)
        refine g_aload_n X 1 dX4_why_69 rfl rfl ?_
        refine g_iload_n X 2 dX4_why_70 rfl rfl ?_
        refine g_iald X (n := 7) (c := c1) h hc1 (by decide) dX4_why_71 (fun h => ?_)
        refine g_icmp_ne X h dX4_why_72 (tgt := 94) (by decide) (fun h => ?_) (fun h => ?_)
        · refine g_iinc X 3 [1, 2, 3, 0] (ls1 := [(0, .ref (ad 26)), (1, .ref (ad c1)), (2, iv x2), (3, iv (x3 + 1))]) dX4_why_94 rfl (by decide) rfl ?_
          refine g_goto X (tgt := 51) dX4_why_97 (by decide) ?_
          exact ih (x3 + 1) w h
        · refine g_aload_n X 0 dX4_why_75 rfl rfl ?_
          refine gf_X4_25 X dX4_why_76 ?_
          refine g_bipush X 7 dX4_why_79 (by decide) ?_
          refine g_iload_n X 2 dX4_why_81 rfl rfl ?_
          refine g_imul X dX4_why_82 ?_
          refine g_iload_n X 3 dX4_why_83 rfl rfl ?_
          refine g_iadd X dX4_why_84 ?_
          refine g_zald X (n := 49) (c := 32) h rfl (by decide) dX4_why_85 (fun h => ?_)
          refine g_if_eq X h dX4_why_86 (tgt := 94) (by decide) (fun h => ?_) (fun h => ?_)
          · refine g_iinc X 3 [1, 2, 3, 0] (ls1 := [(0, .ref (ad 26)), (1, .ref (ad c1)), (2, iv x2), (3, iv (x3 + 1))]) dX4_why_94 rfl (by decide) rfl ?_
            refine g_goto X (tgt := 51) dX4_why_97 (by decide) ?_
            exact ih (x3 + 1) w h
          · refine g_bipush X 20 dX4_why_89 (by decide) ?_
            refine g_iload_n X 2 dX4_why_91 rfl rfl ?_
            refine g_iadd X dX4_why_92 ?_
            exact g_iret X Z h dX4_why_93
noncomputable def m_why_41 (c1 : Nat) (k1 : Wd → Option (Int × Wd)) : Nat → Int → Wd → Option (Int × Wd)
  | 0, _, _ => none
  | n + 1, x2, w =>
    (if wr (w 26 4) ≤ wr x2 then
      (k1 w)
    else
      (m_why_51 c1 x2 (fun (w100 : Wd) =>
        (m_why_41 c1 k1 n (x2 + 1) w100)) FU 0 w))
theorem m_why_41_ok {lc : Launch} {κ : KX} {D : CX} {ad : Nat → Nat} {c1 : Nat} {k1 : Wd → Option (Int × Wd)} {v : Int × Wd} (X : gX κ D cX4_why RX4 rmX4_why lc 4) (Z : gQ κ D LAY ad (some .int) (some (iv v.1)) v.2 0 0) (hc1 : LAY[c1]? = some (.inl (0, 7))) (hk1 : ∀ (w : Wd), k1 w = some v → G κ D LAY ad 0 0 w 106 [(0, .ref (ad 26)), (1, .ref (ad c1))] []) : ∀ (n : Nat) (x2 : Int) (w : Wd), m_why_41 c1 k1 n x2 w = some v → G κ D LAY ad 0 0 w 41 [(0, .ref (ad 26)), (1, .ref (ad c1)), (2, iv x2)] [] := by
  intro n
  induction n with
  | zero =>
    intro x2 w h
    cases h
  | succ n ih =>
    intro x2 w h
    rw [m_why_41] at h
    refine g_iload_n X 2 dX4_why_41 rfl rfl ?_
    refine g_aload_n X 0 dX4_why_42 rfl rfl ?_
    refine gf_X4_54 X dX4_why_43 ?_
    refine g_icmp_ge X h dX4_why_46 (tgt := 106) (by decide) (fun h => ?_) (fun h => ?_)
    · refine g_sub [0, 1] rfl ?_
      exact hk1 w h
    · refine g_iconst X dX4_why_49 ?_
      refine g_istore_n X [1, 2, 3, 0] (ls1 := [(0, .ref (ad 26)), (1, .ref (ad c1)), (2, iv x2), (3, iv 0)]) dX4_why_50 rfl (by decide) rfl ?_
      refine m_why_51_ok X Z hc1 ?_ FU 0 w h
      · intro w100 h
        refine g_iinc X 2 [1, 2, 0] (ls1 := [(0, .ref (ad 26)), (1, .ref (ad c1)), (2, iv (x2 + 1))]) dX4_why_100 rfl (by decide) rfl ?_
        refine g_goto X (tgt := 41) dX4_why_103 (by decide) ?_
        exact ih (x2 + 1) w100 h
noncomputable def m_why_108 (c1 : Nat) : Nat → Int → Wd → Option (Int × Wd)
  | 0, _, _ => none
  | n + 1, x2, w =>
    (if wr (w 26 6) ≤ wr x2 then
      some (0, w)
    else
      ((m_room c1 x2 w).bind fun q119 =>
      (if 0 ≤ wr q119.1 then
        (m_why_108 c1 n (x2 + 1) q119.2)
      else
        some ((30 + x2), q119.2))))
theorem m_why_108_ok {lc : Launch} {κ : KX} {D : CX} {ad : Nat → Nat} {c1 : Nat} {v : Int × Wd} (X : gX κ D cX4_why RX4 rmX4_why lc 4) (Z : gQ κ D LAY ad (some .int) (some (iv v.1)) v.2 0 0) (hc1 : LAY[c1]? = some (.inl (0, 7))) : ∀ (n : Nat) (x2 : Int) (w : Wd), m_why_108 c1 n x2 w = some v → G κ D LAY ad 0 0 w 108 [(0, .ref (ad 26)), (1, .ref (ad c1)), (2, iv x2)] [] := by
  intro n
  induction n with
  | zero =>
    intro x2 w h
    cases h
  | succ n ih =>
    intro x2 w h
    rw [m_why_108] at h
    refine g_iload_n X 2 dX4_why_108 rfl rfl ?_
    refine g_aload_n X 0 dX4_why_109 rfl rfl ?_
    refine gf_X4_61 X dX4_why_110 ?_
    refine g_icmp_ge X h dX4_why_113 (tgt := 136) (by decide) (fun h => ?_) (fun h => ?_)
    · refine g_iconst X dX4_why_136 ?_
      exact g_iret X Z h dX4_why_137
    · refine g_aload_n X 0 dX4_why_116 rfl rfl ?_
      refine g_aload_n X 1 dX4_why_117 rfl rfl ?_
      refine g_iload_n X 2 dX4_why_118 rfl rfl ?_
      obtain ⟨q119, e119, h⟩ := bindE h
      refine g_callVi X (st := []) 26 [.ref (ad c1), iv x2] (mc_m_room hc1 e119) cal_X4_room rfl rfl wm_X4_111 (by decide) rfl rfl ⟨by decide, by decide⟩ rfl (Nat.le_of_ble_eq_true rfl) dX4_why_119 ?_
      refine g_if_ge X h dX4_why_122 (tgt := 130) (by decide) (fun h => ?_) (fun h => ?_)
      · refine g_iinc X 2 [1, 2, 0] (ls1 := [(0, .ref (ad 26)), (1, .ref (ad c1)), (2, iv (x2 + 1))]) dX4_why_130 rfl (by decide) rfl ?_
        refine g_goto X (tgt := 108) dX4_why_133 (by decide) ?_
        exact ih (x2 + 1) q119.2 h
      · refine g_bipush X 30 dX4_why_125 (by decide) ?_
        refine g_iload_n X 2 dX4_why_127 rfl rfl ?_
        refine g_iadd X dX4_why_128 ?_
        exact g_iret X Z h dX4_why_129
noncomputable def m_why (c1 : Nat) (w : Wd) : Option (Int × Wd) :=
  (m_why_2 c1 (fun (w39 : Wd) =>
    (m_why_41 c1 (fun (w106 : Wd) =>
      (m_why_108 c1 FU 0 w106)) FU 0 w39)) FU 0 w)
theorem mc_m_why {lc : Launch} {D : CX} {ad : Nat → Nat} {w : Wd} {c1 : Nat} {v : Int × Wd} (hc1 : LAY[c1]? = some (.inl (0, 7))) (h : m_why c1 w = some v) : Mc lc yX4_why cX4_why 4 (some .int) rmX4_why D LAY ad [.ref (ad 26), .ref (ad c1)] w (some (iv v.1)) v.2 0 0 := by
  refine mc_of (by decide) (Nat.le_of_ble_eq_true rfl) ?_
  intro κ X Z
  show G κ D LAY ad 0 0 w 0 [(0, .ref (ad 26)), (1, .ref (ad c1))] []
  unfold m_why at h
  refine g_iconst X dX4_why_0 ?_
  refine g_istore_n X [1, 2, 0] (ls1 := [(0, .ref (ad 26)), (1, .ref (ad c1)), (2, iv 0)]) dX4_why_1 rfl (by decide) rfl ?_
  refine m_why_2_ok X Z hc1 ?_ FU 0 w h
  · intro w39 h
    refine g_iconst X dX4_why_39 ?_
    refine g_istore_n X [1, 2, 0] (ls1 := [(0, .ref (ad 26)), (1, .ref (ad c1)), (2, iv 0)]) dX4_why_40 rfl (by decide) rfl ?_
    refine m_why_41_ok X Z hc1 ?_ FU 0 w39 h
    · intro w106 h
      refine g_iconst X dX4_why_106 ?_
      refine g_istore_n X [1, 2, 0] (ls1 := [(0, .ref (ad 26)), (1, .ref (ad c1)), (2, iv 0)]) dX4_why_107 rfl (by decide) rfl ?_
      refine m_why_108_ok X Z hc1 FU 0 w106 h

/-! TallShipsModel.wrong -/
noncomputable def m_wrong (w : Wd) : Option (Int × Wd) :=
  ((m_why 33 (wset w 26 10 0)).bind fun q10 =>
  some (q10.1, q10.2))
theorem mc_m_wrong {lc : Launch} {D : CX} {ad : Nat → Nat} {w : Wd} {v : Int × Wd} (h : m_wrong w = some v) : Mc lc yX4_wrong cX4_wrong 1 (some .int) rmX4_wrong D LAY ad [.ref (ad 26)] w (some (iv v.1)) v.2 0 0 := by
  refine mc_of (by decide) (Nat.le_of_ble_eq_true rfl) ?_
  intro κ X Z
  show G κ D LAY ad 0 0 w 0 [(0, .ref (ad 26))] []
  unfold m_wrong at h
  refine g_aload_n X 0 dX4_wrong_0 rfl rfl ?_
  refine g_iconst X dX4_wrong_1 ?_
  refine gp_X4_50 X dX4_wrong_2 ?_
  refine g_aload_n X 0 dX4_wrong_5 rfl rfl ?_
  refine g_aload_n X 0 dX4_wrong_6 rfl rfl ?_
  refine gf_X4_29 X dX4_wrong_7 ?_
  obtain ⟨q10, e10, h⟩ := bindE h
  refine g_callVi X (st := []) 26 [.ref (ad 33)] (mc_m_why rfl e10) cal_X4_why rfl rfl wm_X4_115 (by decide) rfl rfl ⟨by decide, by decide⟩ rfl (Nat.le_of_ble_eq_true rfl) dX4_wrong_10 ?_
  exact g_iret X Z h dX4_wrong_13

/-! TallShipsModel.left -/
noncomputable def m_left (x1 : Int) (w : Wd) : Option (Int × Wd) :=
  ((m_isQuay x1 (wset w 26 10 0)).bind fun q7 =>
  (if wr q7.1 = 0 then
    some ((-9999), q7.2)
  else
    ((m_room 33 x1 q7.2).bind fun q19 =>
    some (q19.1, q19.2))))
theorem mc_m_left {lc : Launch} {D : CX} {ad : Nat → Nat} {w : Wd} {x1 : Int} {v : Int × Wd} (h : m_left x1 w = some v) : Mc lc yX4_left cX4_left 2 (some .int) rmX4_left D LAY ad [.ref (ad 26), iv x1] w (some (iv v.1)) v.2 0 0 := by
  refine mc_of (by decide) (Nat.le_of_ble_eq_true rfl) ?_
  intro κ X Z
  show G κ D LAY ad 0 0 w 0 [(0, .ref (ad 26)), (1, iv x1)] []
  unfold m_left at h
  refine g_aload_n X 0 dX4_left_0 rfl rfl ?_
  refine g_iconst X dX4_left_1 ?_
  refine gp_X4_50 X dX4_left_2 ?_
  refine g_aload_n X 0 dX4_left_5 rfl rfl ?_
  refine g_iload_n X 1 dX4_left_6 rfl rfl ?_
  obtain ⟨q7, e7, h⟩ := bindE h
  refine g_callVi X (st := []) 26 [iv x1] (mc_m_isQuay e7) cal_X4_isQuay rfl rfl wm_X4_93 (by decide) rfl rfl ⟨by decide, by decide⟩ rfl (Nat.le_of_ble_eq_true rfl) dX4_left_7 ?_
  refine g_if_eq X h dX4_left_10 (tgt := 25) (by decide) (fun h => ?_) (fun h => ?_)
  · refine g_sipush X (-9999) dX4_left_25 (by decide) ?_
    exact g_iret X Z h dX4_left_28
  · refine g_aload_n X 0 dX4_left_13 rfl rfl ?_
    refine g_aload_n X 0 dX4_left_14 rfl rfl ?_
    refine gf_X4_29 X dX4_left_15 ?_
    refine g_iload_n X 1 dX4_left_18 rfl rfl ?_
    obtain ⟨q19, e19, h⟩ := bindE h
    refine g_callVi X (st := []) 26 [.ref (ad 33), iv x1] (mc_m_room rfl e19) cal_X4_room rfl rfl wm_X4_111 (by decide) rfl rfl ⟨by decide, by decide⟩ rfl (Nat.le_of_ble_eq_true rfl) dX4_left_19 ?_
    refine g_goto X (tgt := 28) dX4_left_22 (by decide) ?_
    exact g_iret X Z h dX4_left_28

/-! TallShipsModel.moved -/
noncomputable def m_moved_4 (c1 : Nat) : Nat → Int → Int → Wd → Option (Int × Wd)
  | 0, _, _, _ => none
  | n + 1, x2, x3, w =>
    (if wr (w 26 4) ≤ wr x3 then
      some (x2, w)
    else
      (if 0 ≤ x3 ∧ x3 < 7 then
      (if 0 ≤ x3 ∧ x3 < 7 then
      (if wr (w c1 x3.toNat) = wr (w 33 x3.toNat) then
        (m_moved_4 c1 n x2 (x3 + 1) w)
      else
        (m_moved_4 c1 n (x2 + 1) (x3 + 1) w))
      else none)
      else none))
theorem m_moved_4_ok {lc : Launch} {κ : KX} {D : CX} {ad : Nat → Nat} {c1 : Nat} {v : Int × Wd} (X : gX κ D cX4_moved RX4 rmX4_moved lc 4) (Z : gQ κ D LAY ad (some .int) (some (iv v.1)) v.2 0 0) (hc1 : LAY[c1]? = some (.inl (0, 7))) : ∀ (n : Nat) (x2 : Int) (x3 : Int) (w : Wd), m_moved_4 c1 n x2 x3 w = some v → G κ D LAY ad 0 0 w 4 [(0, .ref (ad 26)), (1, .ref (ad c1)), (2, iv x2), (3, iv x3)] [] := by
  intro n
  induction n with
  | zero =>
    intro x2 x3 w h
    cases h
  | succ n ih =>
    intro x2 x3 w h
    rw [m_moved_4] at h
    refine g_iload_n X 3 dX4_moved_4 rfl rfl ?_
    refine g_aload_n X 0 dX4_moved_5 rfl rfl ?_
    refine gf_X4_54 X dX4_moved_6 ?_
    refine g_icmp_ge X h dX4_moved_9 (tgt := 33) (by decide) (fun h => ?_) (fun h => ?_)
    · refine g_iload_n X 2 dX4_moved_33 rfl rfl ?_
      exact g_iret X Z h dX4_moved_34
    · refine g_aload_n X 1 dX4_moved_12 rfl rfl ?_
      refine g_iload_n X 3 dX4_moved_13 rfl rfl ?_
      refine g_iald X (n := 7) (c := c1) h hc1 (by decide) dX4_moved_14 (fun h => ?_)
      refine g_aload_n X 0 dX4_moved_15 rfl rfl ?_
      refine gf_X4_29 X dX4_moved_16 ?_
      refine g_iload_n X 3 dX4_moved_19 rfl rfl ?_
      refine g_iald X (n := 7) (c := 33) h rfl (by decide) dX4_moved_20 (fun h => ?_)
      refine g_icmp_eq X h dX4_moved_21 (tgt := 27) (by decide) (fun h => ?_) (fun h => ?_)
      · refine g_iinc X 3 [1, 2, 3, 0] (ls1 := [(0, .ref (ad 26)), (1, .ref (ad c1)), (2, iv x2), (3, iv (x3 + 1))]) dX4_moved_27 rfl (by decide) rfl ?_
        refine g_goto X (tgt := 4) dX4_moved_30 (by decide) ?_
        exact ih x2 (x3 + 1) w h
      · refine g_iinc X 2 [1, 2, 0, 3] (ls1 := [(0, .ref (ad 26)), (1, .ref (ad c1)), (2, iv (x2 + 1)), (3, iv x3)]) dX4_moved_24 rfl (by decide) rfl ?_
        refine g_iinc X 3 [1, 2, 3, 0] (ls1 := [(0, .ref (ad 26)), (1, .ref (ad c1)), (2, iv (x2 + 1)), (3, iv (x3 + 1))]) dX4_moved_27 rfl (by decide) rfl ?_
        refine g_goto X (tgt := 4) dX4_moved_30 (by decide) ?_
        exact ih (x2 + 1) (x3 + 1) w h
noncomputable def m_moved (c1 : Nat) (w : Wd) : Option (Int × Wd) :=
  (m_moved_4 c1 FU 0 0 w)
theorem mc_m_moved {lc : Launch} {D : CX} {ad : Nat → Nat} {w : Wd} {c1 : Nat} {v : Int × Wd} (hc1 : LAY[c1]? = some (.inl (0, 7))) (h : m_moved c1 w = some v) : Mc lc yX4_moved cX4_moved 4 (some .int) rmX4_moved D LAY ad [.ref (ad 26), .ref (ad c1)] w (some (iv v.1)) v.2 0 0 := by
  refine mc_of (by decide) (Nat.le_of_ble_eq_true rfl) ?_
  intro κ X Z
  show G κ D LAY ad 0 0 w 0 [(0, .ref (ad 26)), (1, .ref (ad c1))] []
  unfold m_moved at h
  refine g_iconst X dX4_moved_0 ?_
  refine g_istore_n X [1, 2, 0] (ls1 := [(0, .ref (ad 26)), (1, .ref (ad c1)), (2, iv 0)]) dX4_moved_1 rfl (by decide) rfl ?_
  refine g_iconst X dX4_moved_2 ?_
  refine g_istore_n X [1, 2, 3, 0] (ls1 := [(0, .ref (ad 26)), (1, .ref (ad c1)), (2, iv 0), (3, iv 0)]) dX4_moved_3 rfl (by decide) rfl ?_
  refine m_moved_4_ok X Z hc1 FU 0 0 w h

/-! TallShipsModel.isGood -/
noncomputable def m_isGood_45 (x1 : Int) (k1 : Wd → Option (Int × Wd)) : Nat → Int → Wd → Option (Int × Wd)
  | 0, _, _ => none
  | n + 1, x2, w =>
    (if wr x1 ≤ wr x2 then
      (k1 w)
    else
      (if 0 ≤ x2 ∧ x2 < 7 then
      (if 0 ≤ x1 ∧ x1 < 7 then
      (if wr (w 35 x2.toNat) = wr (w 35 x1.toNat) then
        (if 0 ≤ ((7 * x1) + x2) ∧ ((7 * x1) + x2) < 49 then
        (if wr (w 32 ((7 * x1) + x2).toNat) = 0 then
          (m_isGood_45 x1 k1 n (x2 + 1) w)
        else
          some (0, w))
        else none)
      else
        (m_isGood_45 x1 k1 n (x2 + 1) w))
      else none)
      else none))
theorem m_isGood_45_ok {lc : Launch} {κ : KX} {D : CX} {ad : Nat → Nat} {x1 : Int} {k1 : Wd → Option (Int × Wd)} {v : Int × Wd} (X : gX κ D cX4_isGood RX4 rmX4_isGood lc 3) (Z : gQ κ D LAY ad (some .boolean) (some (iv v.1)) v.2 0 0) (hk1 : ∀ (w : Wd), k1 w = some v → G κ D LAY ad 0 0 w 87 [(0, .ref (ad 26)), (1, iv x1)] []) : ∀ (n : Nat) (x2 : Int) (w : Wd), m_isGood_45 x1 k1 n x2 w = some v → G κ D LAY ad 0 0 w 45 [(0, .ref (ad 26)), (1, iv x1), (2, iv x2)] [] := by
  intro n
  induction n with
  | zero =>
    intro x2 w h
    cases h
  | succ n ih =>
    intro x2 w h
    rw [m_isGood_45] at h
    refine g_iload_n X 2 dX4_isGood_45 rfl rfl ?_
    refine g_iload_n X 1 dX4_isGood_46 rfl rfl ?_
    refine g_icmp_ge X h dX4_isGood_47 (tgt := 87) (by decide) (fun h => ?_) (fun h => ?_)
    · refine g_sub [0, 1] rfl ?_
      exact hk1 w h
    · refine g_aload_n X 0 dX4_isGood_50 rfl rfl ?_
      refine gf_X4_35 X dX4_isGood_51 ?_
      refine g_iload_n X 2 dX4_isGood_54 rfl rfl ?_
      refine g_iald X (n := 7) (c := 35) h rfl (by decide) dX4_isGood_55 (fun h => ?_)
      refine g_aload_n X 0 dX4_isGood_56 rfl rfl ?_
      refine gf_X4_35 X dX4_isGood_57 ?_
      refine g_iload_n X 1 dX4_isGood_60 rfl rfl ?_
      refine g_iald X (n := 7) (c := 35) h rfl (by decide) dX4_isGood_61 (fun h => ?_)
      refine g_icmp_ne X h dX4_isGood_62 (tgt := 81) (by decide) (fun h => ?_) (fun h => ?_)
      · refine g_iinc X 2 [1, 2, 0] (ls1 := [(0, .ref (ad 26)), (1, iv x1), (2, iv (x2 + 1))]) dX4_isGood_81 rfl (by decide) rfl ?_
        refine g_goto X (tgt := 45) dX4_isGood_84 (by decide) ?_
        exact ih (x2 + 1) w h
      · refine g_aload_n X 0 dX4_isGood_65 rfl rfl ?_
        refine gf_X4_25 X dX4_isGood_66 ?_
        refine g_bipush X 7 dX4_isGood_69 (by decide) ?_
        refine g_iload_n X 1 dX4_isGood_71 rfl rfl ?_
        refine g_imul X dX4_isGood_72 ?_
        refine g_iload_n X 2 dX4_isGood_73 rfl rfl ?_
        refine g_iadd X dX4_isGood_74 ?_
        refine g_zald X (n := 49) (c := 32) h rfl (by decide) dX4_isGood_75 (fun h => ?_)
        refine g_if_eq X h dX4_isGood_76 (tgt := 81) (by decide) (fun h => ?_) (fun h => ?_)
        · refine g_iinc X 2 [1, 2, 0] (ls1 := [(0, .ref (ad 26)), (1, iv x1), (2, iv (x2 + 1))]) dX4_isGood_81 rfl (by decide) rfl ?_
          refine g_goto X (tgt := 45) dX4_isGood_84 (by decide) ?_
          exact ih (x2 + 1) w h
        · refine g_iconst X dX4_isGood_79 ?_
          exact g_zretC X Z h (by decide) dX4_isGood_80
noncomputable def m_isGood_2 (k1 : Wd → Option (Int × Wd)) : Nat → Int → Wd → Option (Int × Wd)
  | 0, _, _ => none
  | n + 1, x1, w =>
    (if wr (w 26 4) ≤ wr x1 then
      (k1 w)
    else
      (if 0 ≤ x1 ∧ x1 < 7 then
      (if wr (w 35 x1.toNat) = wr (-1) then
        (m_isGood_2 k1 n (x1 + 1) w)
      else
        (if 0 ≤ x1 ∧ x1 < 7 then
        (if 0 ≤ ((4 * x1) + (w 35 x1.toNat)) ∧ ((4 * x1) + (w 35 x1.toNat)) < 28 then
        (if wr (w 37 ((4 * x1) + (w 35 x1.toNat)).toNat) = 0 then
          some (0, w)
        else
          (m_isGood_45 x1 (fun (w87 : Wd) =>
            (m_isGood_2 k1 n (x1 + 1) w87)) FU 0 w))
        else none)
        else none))
      else none))
theorem m_isGood_2_ok {lc : Launch} {κ : KX} {D : CX} {ad : Nat → Nat} {k1 : Wd → Option (Int × Wd)} {v : Int × Wd} (X : gX κ D cX4_isGood RX4 rmX4_isGood lc 3) (Z : gQ κ D LAY ad (some .boolean) (some (iv v.1)) v.2 0 0) (hk1 : ∀ (w : Wd), k1 w = some v → G κ D LAY ad 0 0 w 93 [(0, .ref (ad 26))] []) : ∀ (n : Nat) (x1 : Int) (w : Wd), m_isGood_2 k1 n x1 w = some v → G κ D LAY ad 0 0 w 2 [(0, .ref (ad 26)), (1, iv x1)] [] := by
  intro n
  induction n with
  | zero =>
    intro x1 w h
    cases h
  | succ n ih =>
    intro x1 w h
    rw [m_isGood_2] at h
    refine g_iload_n X 1 dX4_isGood_2 rfl rfl ?_
    refine g_aload_n X 0 dX4_isGood_3 rfl rfl ?_
    refine gf_X4_54 X dX4_isGood_4 ?_
    refine g_icmp_ge X h dX4_isGood_7 (tgt := 93) (by decide) (fun h => ?_) (fun h => ?_)
    · refine g_sub [0] rfl ?_
      exact hk1 w h
    · refine g_aload_n X 0 dX4_isGood_10 rfl rfl ?_
      refine gf_X4_35 X dX4_isGood_11 ?_
      refine g_iload_n X 1 dX4_isGood_14 rfl rfl ?_
      refine g_iald X (n := 7) (c := 35) h rfl (by decide) dX4_isGood_15 (fun h => ?_)
      refine g_iconst X dX4_isGood_16 ?_
      refine g_icmp_ne X h dX4_isGood_17 (tgt := 23) (by decide) (fun h => ?_) (fun h => ?_)
      · refine g_aload_n X 0 dX4_isGood_23 rfl rfl ?_
        refine gf_X4_41 X dX4_isGood_24 ?_
        refine g_iconst X dX4_isGood_27 ?_
        refine g_iload_n X 1 dX4_isGood_28 rfl rfl ?_
        refine g_imul X dX4_isGood_29 ?_
        refine g_aload_n X 0 dX4_isGood_30 rfl rfl ?_
        refine gf_X4_35 X dX4_isGood_31 ?_
        refine g_iload_n X 1 dX4_isGood_34 rfl rfl ?_
        refine g_iald X (n := 7) (c := 35) h rfl (by decide) dX4_isGood_35 (fun h => ?_)
        refine g_iadd X dX4_isGood_36 ?_
        refine g_zald X (n := 28) (c := 37) h rfl (by decide) dX4_isGood_37 (fun h => ?_)
        refine g_if_ne X h dX4_isGood_38 (tgt := 43) (by decide) (fun h => ?_) (fun h => ?_)
        · refine g_iconst X dX4_isGood_43 ?_
          refine g_istore_n X [1, 2, 0] (ls1 := [(0, .ref (ad 26)), (1, iv x1), (2, iv 0)]) dX4_isGood_44 rfl (by decide) rfl ?_
          refine m_isGood_45_ok X Z ?_ FU 0 w h
          · intro w87 h
            refine g_iinc X 1 [1, 0] (ls1 := [(0, .ref (ad 26)), (1, iv (x1 + 1))]) dX4_isGood_87 rfl (by decide) rfl ?_
            refine g_goto X (tgt := 2) dX4_isGood_90 (by decide) ?_
            exact ih (x1 + 1) w87 h
        · refine g_iconst X dX4_isGood_41 ?_
          exact g_zretC X Z h (by decide) dX4_isGood_42
      · refine g_goto X (tgt := 87) dX4_isGood_20 (by decide) ?_
        refine g_iinc X 1 [1, 0] (ls1 := [(0, .ref (ad 26)), (1, iv (x1 + 1))]) dX4_isGood_87 rfl (by decide) rfl ?_
        refine g_goto X (tgt := 2) dX4_isGood_90 (by decide) ?_
        exact ih (x1 + 1) w h
noncomputable def m_isGood_95 : Nat → Int → Wd → Option (Int × Wd)
  | 0, _, _ => none
  | n + 1, x1, w =>
    (if wr (w 26 6) ≤ wr x1 then
      some (1, w)
    else
      ((m_room 35 x1 w).bind fun q109 =>
      (if 0 ≤ wr q109.1 then
        (m_isGood_95 n (x1 + 1) q109.2)
      else
        some (0, q109.2))))
theorem m_isGood_95_ok {lc : Launch} {κ : KX} {D : CX} {ad : Nat → Nat} {v : Int × Wd} (X : gX κ D cX4_isGood RX4 rmX4_isGood lc 3) (Z : gQ κ D LAY ad (some .boolean) (some (iv v.1)) v.2 0 0) : ∀ (n : Nat) (x1 : Int) (w : Wd), m_isGood_95 n x1 w = some v → G κ D LAY ad 0 0 w 95 [(0, .ref (ad 26)), (1, iv x1)] [] := by
  intro n
  induction n with
  | zero =>
    intro x1 w h
    cases h
  | succ n ih =>
    intro x1 w h
    rw [m_isGood_95] at h
    refine g_iload_n X 1 dX4_isGood_95 rfl rfl ?_
    refine g_aload_n X 0 dX4_isGood_96 rfl rfl ?_
    refine gf_X4_61 X dX4_isGood_97 ?_
    refine g_icmp_ge X h dX4_isGood_100 (tgt := 123) (by decide) (fun h => ?_) (fun h => ?_)
    · refine g_iconst X dX4_isGood_123 ?_
      exact g_zretC X Z h (by decide) dX4_isGood_124
    · refine g_aload_n X 0 dX4_isGood_103 rfl rfl ?_
      refine g_aload_n X 0 dX4_isGood_104 rfl rfl ?_
      refine gf_X4_35 X dX4_isGood_105 ?_
      refine g_iload_n X 1 dX4_isGood_108 rfl rfl ?_
      obtain ⟨q109, e109, h⟩ := bindE h
      refine g_callVi X (st := []) 26 [.ref (ad 35), iv x1] (mc_m_room rfl e109) cal_X4_room rfl rfl wm_X4_111 (by decide) rfl rfl ⟨by decide, by decide⟩ rfl (Nat.le_of_ble_eq_true rfl) dX4_isGood_109 ?_
      refine g_if_ge X h dX4_isGood_112 (tgt := 117) (by decide) (fun h => ?_) (fun h => ?_)
      · refine g_iinc X 1 [1, 0] (ls1 := [(0, .ref (ad 26)), (1, iv (x1 + 1))]) dX4_isGood_117 rfl (by decide) rfl ?_
        refine g_goto X (tgt := 95) dX4_isGood_120 (by decide) ?_
        exact ih (x1 + 1) q109.2 h
      · refine g_iconst X dX4_isGood_115 ?_
        exact g_zretC X Z h (by decide) dX4_isGood_116
noncomputable def m_isGood (w : Wd) : Option (Int × Wd) :=
  (m_isGood_2 (fun (w93 : Wd) =>
    (m_isGood_95 FU 0 w93)) FU 0 w)
theorem mc_m_isGood {lc : Launch} {D : CX} {ad : Nat → Nat} {w : Wd} {v : Int × Wd} (h : m_isGood w = some v) : Mc lc yX4_isGood cX4_isGood 3 (some .boolean) rmX4_isGood D LAY ad [.ref (ad 26)] w (some (iv v.1)) v.2 0 0 := by
  refine mc_of (by decide) (Nat.le_of_ble_eq_true rfl) ?_
  intro κ X Z
  show G κ D LAY ad 0 0 w 0 [(0, .ref (ad 26))] []
  unfold m_isGood at h
  refine g_iconst X dX4_isGood_0 ?_
  refine g_istore_n X [1, 0] (ls1 := [(0, .ref (ad 26)), (1, iv 0)]) dX4_isGood_1 rfl (by decide) rfl ?_
  refine m_isGood_2_ok X Z ?_ FU 0 w h
  · intro w93 h
    refine g_iconst X dX4_isGood_93 ?_
    refine g_istore_n X [1, 0] (ls1 := [(0, .ref (ad 26)), (1, iv 0)]) dX4_isGood_94 rfl (by decide) rfl ?_
    refine m_isGood_95_ok X Z FU 0 w93 h

/-! TallShipsModel.search -/
noncomputable def m_search_12 (x1 x2 : Int) (k1 : Wd → Option (Int × Wd)) : Nat → Int → Wd → Option (Int × Wd)
  | 0, _, _ => none
  | n + 1, x3, w =>
    (if wr (w 26 6) ≤ wr x3 then
      (k1 w)
    else
      ((m_whyNot x2 x3 w).bind fun q32 =>
      (let j43 := fun (z43_0 : Int) => 
          (if (0 ≤ ((4 * x2) + x3) ∧ ((4 * x2) + x3) < 28) ∧ (z43_0 = 0 ∨ z43_0 = 1) then
          (m_search_12 x1 x2 k1 n (x3 + 1) (wset q32.2 37 ((4 * x2) + x3).toNat z43_0))
          else none)
      (if wr q32.1 = 0 then
        (j43 1)
      else
        (j43 0)))))
theorem m_search_12_ok {lc : Launch} {κ : KX} {D : CX} {ad : Nat → Nat} {x1 x2 : Int} {k1 : Wd → Option (Int × Wd)} {v : Int × Wd} (X : gX κ D cX4_search RX4 rmX4_search lc 13) (Z : gQ κ D LAY ad none none v.2 0 0) (hk1 : ∀ (w : Wd), k1 w = some v → G κ D LAY ad 0 0 w 50 [(0, .ref (ad 26)), (1, iv x1), (2, iv x2)] []) : ∀ (n : Nat) (x3 : Int) (w : Wd), m_search_12 x1 x2 k1 n x3 w = some v → G κ D LAY ad 0 0 w 12 [(0, .ref (ad 26)), (1, iv x1), (2, iv x2), (3, iv x3)] [] := by
  intro n
  induction n with
  | zero =>
    intro x3 w h
    cases h
  | succ n ih =>
    intro x3 w h
    rw [m_search_12] at h
    refine g_iload_n X 3 dX4_search_12 rfl rfl ?_
    refine g_aload_n X 0 dX4_search_13 rfl rfl ?_
    refine gf_X4_61 X dX4_search_14 ?_
    refine g_icmp_ge X h dX4_search_17 (tgt := 50) (by decide) (fun h => ?_) (fun h => ?_)
    · refine g_sub [0, 1, 2] rfl ?_
      exact hk1 w h
    · refine g_aload_n X 0 dX4_search_20 rfl rfl ?_
      refine gf_X4_41 X dX4_search_21 ?_
      refine g_iconst X dX4_search_24 ?_
      refine g_iload_n X 2 dX4_search_25 rfl rfl ?_
      refine g_imul X dX4_search_26 ?_
      refine g_iload_n X 3 dX4_search_27 rfl rfl ?_
      refine g_iadd X dX4_search_28 ?_
      refine g_aload_n X 0 dX4_search_29 rfl rfl ?_
      refine g_iload_n X 2 dX4_search_30 rfl rfl ?_
      refine g_iload_n X 3 dX4_search_31 rfl rfl ?_
      obtain ⟨q32, e32, h⟩ := bindE h
      refine g_callVi X (st := [iv ((4 * x2) + x3), .ref (ad 37)]) 26 [iv x2, iv x3] (mc_m_whyNot e32) cal_X4_whyNot rfl rfl wm_X4_96 (by decide) rfl rfl ⟨by decide, by decide⟩ rfl (Nat.le_of_ble_eq_true rfl) dX4_search_32 ?_
      let j43 := fun (z43_0 : Int) => ((if (0 ≤ ((4 * x2) + x3) ∧ ((4 * x2) + x3) < 28) ∧ (z43_0 = 0 ∨ z43_0 = 1) then
      (m_search_12 x1 x2 k1 n (x3 + 1) (wset q32.2 37 ((4 * x2) + x3).toNat z43_0))
      else none))
      have J43 : ∀ (z43_0 : Int), ((if (0 ≤ ((4 * x2) + x3) ∧ ((4 * x2) + x3) < 28) ∧ (z43_0 = 0 ∨ z43_0 = 1) then
      (m_search_12 x1 x2 k1 n (x3 + 1) (wset q32.2 37 ((4 * x2) + x3).toNat z43_0))
      else none)) = some v → G κ D LAY ad 0 0 q32.2 43 [(0, .ref (ad 26)), (1, iv x1), (2, iv x2), (3, iv x3)] [iv z43_0, iv ((4 * x2) + x3), .ref (ad 37)] := by
        intro z43_0 h
        refine g_zast X (n := 28) (c := 37) h rfl (by decide) dX4_search_43 (fun h => ?_)
        refine g_iinc X 3 [1, 2, 3, 0] (ls1 := [(0, .ref (ad 26)), (1, iv x1), (2, iv x2), (3, iv (x3 + 1))]) dX4_search_44 rfl (by decide) rfl ?_
        refine g_goto X (tgt := 12) dX4_search_47 (by decide) ?_
        exact ih (x3 + 1) (wset q32.2 37 ((4 * x2) + x3).toNat z43_0) h
      refine g_if_ne X h dX4_search_35 (tgt := 42) (by decide) (fun h => ?_) (fun h => ?_)
      · refine g_iconst X dX4_search_42 ?_
        exact J43 0 h
      · refine g_iconst X dX4_search_38 ?_
        refine g_goto X (tgt := 43) dX4_search_39 (by decide) ?_
        exact J43 1 h
noncomputable def m_search_2 (x1 : Int) (k1 : Wd → Option (Int × Wd)) : Nat → Int → Wd → Option (Int × Wd)
  | 0, _, _ => none
  | n + 1, x2, w =>
    (if wr (w 26 4) ≤ wr x2 then
      (k1 w)
    else
      (m_search_12 x1 x2 (fun (w50 : Wd) =>
        (m_search_2 x1 k1 n (x2 + 1) w50)) FU 0 w))
theorem m_search_2_ok {lc : Launch} {κ : KX} {D : CX} {ad : Nat → Nat} {x1 : Int} {k1 : Wd → Option (Int × Wd)} {v : Int × Wd} (X : gX κ D cX4_search RX4 rmX4_search lc 13) (Z : gQ κ D LAY ad none none v.2 0 0) (hk1 : ∀ (w : Wd), k1 w = some v → G κ D LAY ad 0 0 w 56 [(0, .ref (ad 26)), (1, iv x1)] []) : ∀ (n : Nat) (x2 : Int) (w : Wd), m_search_2 x1 k1 n x2 w = some v → G κ D LAY ad 0 0 w 2 [(0, .ref (ad 26)), (1, iv x1), (2, iv x2)] [] := by
  intro n
  induction n with
  | zero =>
    intro x2 w h
    cases h
  | succ n ih =>
    intro x2 w h
    rw [m_search_2] at h
    refine g_iload_n X 2 dX4_search_2 rfl rfl ?_
    refine g_aload_n X 0 dX4_search_3 rfl rfl ?_
    refine gf_X4_54 X dX4_search_4 ?_
    refine g_icmp_ge X h dX4_search_7 (tgt := 56) (by decide) (fun h => ?_) (fun h => ?_)
    · refine g_sub [0, 1] rfl ?_
      exact hk1 w h
    · refine g_iconst X dX4_search_10 ?_
      refine g_istore_n X [1, 2, 3, 0] (ls1 := [(0, .ref (ad 26)), (1, iv x1), (2, iv x2), (3, iv 0)]) dX4_search_11 rfl (by decide) rfl ?_
      refine m_search_12_ok X Z ?_ FU 0 w h
      · intro w50 h
        refine g_iinc X 2 [1, 2, 0] (ls1 := [(0, .ref (ad 26)), (1, iv x1), (2, iv (x2 + 1))]) dX4_search_50 rfl (by decide) rfl ?_
        refine g_goto X (tgt := 2) dX4_search_53 (by decide) ?_
        exact ih (x2 + 1) w50 h
noncomputable def m_search_60 (x1 : Int) (k1 : Int → Wd → Option (Int × Wd)) : Nat → Int → Int → Wd → Option (Int × Wd)
  | 0, _, _, _ => none
  | n + 1, x2, x3, w =>
    (if wr (w 26 4) ≤ wr x3 then
      (k1 x2 w)
    else
      (m_search_60 x1 k1 n (x2 * ((w 26 6) + 1)) (x3 + 1) w))
theorem m_search_60_ok {lc : Launch} {κ : KX} {D : CX} {ad : Nat → Nat} {x1 : Int} {k1 : Int → Wd → Option (Int × Wd)} {v : Int × Wd} (X : gX κ D cX4_search RX4 rmX4_search lc 13) (Z : gQ κ D LAY ad none none v.2 0 0) (hk1 : ∀ (x2 : Int) (w : Wd), k1 x2 w = some v → G κ D LAY ad 0 0 w 83 [(0, .ref (ad 26)), (1, iv x1), (2, iv x2)] []) : ∀ (n : Nat) (x2 : Int) (x3 : Int) (w : Wd), m_search_60 x1 k1 n x2 x3 w = some v → G κ D LAY ad 0 0 w 60 [(0, .ref (ad 26)), (1, iv x1), (2, iv x2), (3, iv x3)] [] := by
  intro n
  induction n with
  | zero =>
    intro x2 x3 w h
    cases h
  | succ n ih =>
    intro x2 x3 w h
    rw [m_search_60] at h
    refine g_iload_n X 3 dX4_search_60 rfl rfl ?_
    refine g_aload_n X 0 dX4_search_61 rfl rfl ?_
    refine gf_X4_54 X dX4_search_62 ?_
    refine g_icmp_ge X h dX4_search_65 (tgt := 83) (by decide) (fun h => ?_) (fun h => ?_)
    · refine g_sub [0, 1, 2] rfl ?_
      exact hk1 x2 w h
    · refine g_iload_n X 2 dX4_search_68 rfl rfl ?_
      refine g_aload_n X 0 dX4_search_69 rfl rfl ?_
      refine gf_X4_61 X dX4_search_70 ?_
      refine g_iconst X dX4_search_73 ?_
      refine g_iadd X dX4_search_74 ?_
      refine g_imul X dX4_search_75 ?_
      refine g_istore_n X [1, 2, 0, 3] (ls1 := [(0, .ref (ad 26)), (1, iv x1), (2, iv (x2 * ((w 26 6) + 1))), (3, iv x3)]) dX4_search_76 rfl (by decide) rfl ?_
      refine g_iinc X 3 [1, 2, 3, 0] (ls1 := [(0, .ref (ad 26)), (1, iv x1), (2, iv (x2 * ((w 26 6) + 1))), (3, iv (x3 + 1))]) dX4_search_77 rfl (by decide) rfl ?_
      refine g_goto X (tgt := 60) dX4_search_80 (by decide) ?_
      exact ih (x2 * ((w 26 6) + 1)) (x3 + 1) w h
noncomputable def m_search_115 (x1 x2 x3 x4 x5 x6 x7 : Int) (k1 : Wd → Option (Int × Wd)) : Nat → Int → Int → Wd → Option (Int × Wd)
  | 0, _, _, _ => none
  | n + 1, x8, x9, w =>
    (if wr x9 < 0 then
      (k1 w)
    else
      (if wr ((w 26 6) + 1) = 0 then none else
      (let j152 := fun (z152_0 : Int) => 
          (if 0 ≤ x9 ∧ x9 < 7 then
          (if wr (((wset w 35 x9.toNat z152_0) 26 6) + 1) = 0 then none else
          (m_search_115 x1 x2 x3 x4 x5 x6 x7 k1 n (bdiv x8 (((wset w 35 x9.toNat z152_0) 26 6) + 1)) (x9 + (-1)) (wset w 35 x9.toNat z152_0)))
          else none)
      (if wr (brem x8 ((w 26 6) + 1)) = wr (w 26 6) then
        (j152 (-1))
      else
        (j152 (brem x8 ((w 26 6) + 1)))))))
theorem m_search_115_ok {lc : Launch} {κ : KX} {D : CX} {ad : Nat → Nat} {x1 x2 x3 x4 x5 x6 x7 : Int} {k1 : Wd → Option (Int × Wd)} {v : Int × Wd} (X : gX κ D cX4_search RX4 rmX4_search lc 13) (Z : gQ κ D LAY ad none none v.2 0 0) (hk1 : ∀ (w : Wd), k1 w = some v → G κ D LAY ad 0 0 w 170 [(0, .ref (ad 26)), (1, iv x1), (2, iv x2), (3, iv x3), (4, iv x4), (5, iv x5), (6, iv x6), (7, iv x7)] []) : ∀ (n : Nat) (x8 : Int) (x9 : Int) (w : Wd), m_search_115 x1 x2 x3 x4 x5 x6 x7 k1 n x8 x9 w = some v → G κ D LAY ad 0 0 w 115 [(0, .ref (ad 26)), (1, iv x1), (2, iv x2), (3, iv x3), (4, iv x4), (5, iv x5), (6, iv x6), (7, iv x7), (8, iv x8), (9, iv x9)] [] := by
  intro n
  induction n with
  | zero =>
    intro x8 x9 w h
    cases h
  | succ n ih =>
    intro x8 x9 w h
    rw [m_search_115] at h
    refine g_iload X 9 dX4_search_115 rfl ?_
    refine g_if_lt X h dX4_search_117 (tgt := 170) (by decide) (fun h => ?_) (fun h => ?_)
    · refine g_sub [0, 1, 2, 3, 4, 5, 6, 7] rfl ?_
      exact hk1 w h
    · refine g_iload X 8 dX4_search_120 rfl ?_
      refine g_aload_n X 0 dX4_search_122 rfl rfl ?_
      refine gf_X4_61 X dX4_search_123 ?_
      refine g_iconst X dX4_search_126 ?_
      refine g_iadd X dX4_search_127 ?_
      refine g_irem X h dX4_search_128 (fun h => ?_)
      refine g_istore X [1, 2, 3, 4, 5, 6, 7, 8, 9, 10, 0] (ls1 := [(0, .ref (ad 26)), (1, iv x1), (2, iv x2), (3, iv x3), (4, iv x4), (5, iv x5), (6, iv x6), (7, iv x7), (8, iv x8), (9, iv x9), (10, iv (brem x8 ((w 26 6) + 1)))]) dX4_search_129 (by decide) rfl ?_
      refine g_aload_n X 0 dX4_search_131 rfl rfl ?_
      refine gf_X4_35 X dX4_search_132 ?_
      refine g_iload X 9 dX4_search_135 rfl ?_
      refine g_iload X 10 dX4_search_137 rfl ?_
      refine g_aload_n X 0 dX4_search_139 rfl rfl ?_
      refine gf_X4_61 X dX4_search_140 ?_
      let j152 := fun (z152_0 : Int) => ((if 0 ≤ x9 ∧ x9 < 7 then
      (if wr (((wset w 35 x9.toNat z152_0) 26 6) + 1) = 0 then none else
      (m_search_115 x1 x2 x3 x4 x5 x6 x7 k1 n (bdiv x8 (((wset w 35 x9.toNat z152_0) 26 6) + 1)) (x9 + (-1)) (wset w 35 x9.toNat z152_0)))
      else none))
      have J152 : ∀ (z152_0 : Int), ((if 0 ≤ x9 ∧ x9 < 7 then
      (if wr (((wset w 35 x9.toNat z152_0) 26 6) + 1) = 0 then none else
      (m_search_115 x1 x2 x3 x4 x5 x6 x7 k1 n (bdiv x8 (((wset w 35 x9.toNat z152_0) 26 6) + 1)) (x9 + (-1)) (wset w 35 x9.toNat z152_0)))
      else none)) = some v → G κ D LAY ad 0 0 w 152 [(0, .ref (ad 26)), (1, iv x1), (2, iv x2), (3, iv x3), (4, iv x4), (5, iv x5), (6, iv x6), (7, iv x7), (8, iv x8), (9, iv x9)] [iv z152_0, iv x9, .ref (ad 35)] := by
        intro z152_0 h
        refine g_iast X (n := 7) (c := 35) h rfl (by decide) dX4_search_152 (fun h => ?_)
        refine g_iload X 8 dX4_search_153 rfl ?_
        refine g_aload_n X 0 dX4_search_155 rfl rfl ?_
        refine gf_X4_61 X dX4_search_156 ?_
        refine g_iconst X dX4_search_159 ?_
        refine g_iadd X dX4_search_160 ?_
        refine g_idiv X h dX4_search_161 (fun h => ?_)
        refine g_istore X [1, 2, 3, 4, 5, 6, 7, 8, 0, 9] (ls1 := [(0, .ref (ad 26)), (1, iv x1), (2, iv x2), (3, iv x3), (4, iv x4), (5, iv x5), (6, iv x6), (7, iv x7), (8, iv (bdiv x8 (((wset w 35 x9.toNat z152_0) 26 6) + 1))), (9, iv x9)]) dX4_search_162 (by decide) rfl ?_
        refine g_iinc X 9 [1, 2, 3, 4, 5, 6, 7, 8, 9, 0] (ls1 := [(0, .ref (ad 26)), (1, iv x1), (2, iv x2), (3, iv x3), (4, iv x4), (5, iv x5), (6, iv x6), (7, iv x7), (8, iv (bdiv x8 (((wset w 35 x9.toNat z152_0) 26 6) + 1))), (9, iv (x9 + (-1)))]) dX4_search_164 rfl (by decide) rfl ?_
        refine g_goto X (tgt := 115) dX4_search_167 (by decide) ?_
        exact ih (bdiv x8 (((wset w 35 x9.toNat z152_0) 26 6) + 1)) (x9 + (-1)) (wset w 35 x9.toNat z152_0) h
      refine g_icmp_ne X h dX4_search_143 (tgt := 150) (by decide) (fun h => ?_) (fun h => ?_)
      · refine g_iload X 10 dX4_search_150 rfl ?_
        refine g_sub [0, 1, 2, 3, 4, 5, 6, 7, 8, 9] rfl ?_
        exact J152 (brem x8 ((w 26 6) + 1)) h
      · refine g_iconst X dX4_search_146 ?_
        refine g_goto X (tgt := 152) dX4_search_147 (by decide) ?_
        refine g_sub [0, 1, 2, 3, 4, 5, 6, 7, 8, 9] rfl ?_
        exact J152 (-1) h
noncomputable def m_search_292 (x1 x2 x3 x4 x5 x6 x7 : Int) (k1 : Wd → Option (Int × Wd)) : Nat → Int → Wd → Option (Int × Wd)
  | 0, _, _ => none
  | n + 1, x12, w =>
    (if wr (w 26 4) ≤ wr x12 then
      (k1 w)
    else
      (if 0 ≤ x12 ∧ x12 < 7 then
      (if 0 ≤ x12 ∧ x12 < 7 then
      (m_search_292 x1 x2 x3 x4 x5 x6 x7 k1 n (x12 + 1) (wset w 36 x12.toNat (w 35 x12.toNat)))
      else none)
      else none))
theorem m_search_292_ok {lc : Launch} {κ : KX} {D : CX} {ad : Nat → Nat} {x1 x2 x3 x4 x5 x6 x7 : Int} {k1 : Wd → Option (Int × Wd)} {v : Int × Wd} (X : gX κ D cX4_search RX4 rmX4_search lc 13) (Z : gQ κ D LAY ad none none v.2 0 0) (hk1 : ∀ (w : Wd), k1 w = some v → G κ D LAY ad 0 0 w 321 [(0, .ref (ad 26)), (1, iv x1), (2, iv x2), (3, iv x3), (4, iv x4), (5, iv x5), (6, iv x6), (7, iv x7)] []) : ∀ (n : Nat) (x12 : Int) (w : Wd), m_search_292 x1 x2 x3 x4 x5 x6 x7 k1 n x12 w = some v → G κ D LAY ad 0 0 w 292 [(0, .ref (ad 26)), (1, iv x1), (2, iv x2), (3, iv x3), (4, iv x4), (5, iv x5), (6, iv x6), (7, iv x7), (12, iv x12)] [] := by
  intro n
  induction n with
  | zero =>
    intro x12 w h
    cases h
  | succ n ih =>
    intro x12 w h
    rw [m_search_292] at h
    refine g_iload X 8 dX4_search_292 rfl ?_
    refine g_aload_n X 0 dX4_search_294 rfl rfl ?_
    refine gf_X4_54 X dX4_search_295 ?_
    refine g_icmp_ge X h dX4_search_298 (tgt := 321) (by decide) (fun h => ?_) (fun h => ?_)
    · refine g_sub [0, 1, 2, 3, 4, 5, 6, 7] rfl ?_
      exact hk1 w h
    · refine g_aload_n X 0 dX4_search_301 rfl rfl ?_
      refine gf_X4_38 X dX4_search_302 ?_
      refine g_iload X 8 dX4_search_305 rfl ?_
      refine g_aload_n X 0 dX4_search_307 rfl rfl ?_
      refine gf_X4_35 X dX4_search_308 ?_
      refine g_iload X 8 dX4_search_311 rfl ?_
      refine g_iald X (n := 7) (c := 35) h rfl (by decide) dX4_search_313 (fun h => ?_)
      refine g_iast X (n := 7) (c := 36) h rfl (by decide) dX4_search_314 (fun h => ?_)
      refine g_iinc X 8 [1, 2, 3, 4, 5, 6, 7, 8, 0] (ls1 := [(0, .ref (ad 26)), (1, iv x1), (2, iv x2), (3, iv x3), (4, iv x4), (5, iv x5), (6, iv x6), (7, iv x7), (12, iv (x12 + 1))]) dX4_search_315 rfl (by decide) rfl ?_
      refine g_goto X (tgt := 292) dX4_search_318 (by decide) ?_
      exact ih (x12 + 1) (wset w 36 x12.toNat (w 35 x12.toNat)) h
noncomputable def m_search_97 (x1 x2 : Int) : Nat → Int → Int → Int → Int → Int → Wd → Option (Int × Wd)
  | 0, _, _, _, _, _, _ => none
  | n + 1, x3, x4, x5, x6, x7, w =>
    (if wr x2 ≤ wr x7 then
      some (0, w)
    else
      (m_search_115 x1 x2 x3 x4 x5 x6 x7 (fun (w170 : Wd) =>
        ((m_berthed 35 w170).bind fun q175 =>
        (let j191 := fun (_ : Unit) => 
            ((m_isGood q175.2).bind fun q192 =>
            (if wr q192.1 = 0 then
              (m_search_97 x1 x2 n x3 x4 x5 x6 (x7 + 1) q192.2)
            else
              (let j217 := fun (z217_0 : Int) (w217 : Wd) => 
                  ((m_show 35 (w217 26 4) w217).bind fun q235 =>
                  (let j275 := fun (_ : Unit) => 
                      (m_search_292 x1 x2 1 q175.1 z217_0 q235.1 x7 (fun (w321 : Wd) =>
                        (m_search_97 x1 x2 n 1 q175.1 z217_0 q235.1 (x7 + 1) w321)) FU 0 q235.2)
                  (if wr x3 = 0 then
                    (j275 ())
                  else
                    (if wr q175.1 = wr x4 then
                      (if wr x5 < wr z217_0 then
                        (m_search_97 x1 x2 n x3 x4 x5 x6 (x7 + 1) q235.2)
                      else
                        (if wr z217_0 = wr x5 then
                          (if wr x6 < wr q235.1 then
                            (j275 ())
                          else
                            (m_search_97 x1 x2 n x3 x4 x5 x6 (x7 + 1) q235.2))
                        else
                          (j275 ())))
                    else
                      (j275 ())))))
              (if wr x1 = 0 then
                (j217 0 q192.2)
              else
                ((m_moved 35 q192.2).bind fun q210 =>
                (j217 q210.1 q210.2))))))
        (if wr x3 = 0 then
          (j191 ())
        else
          (if wr q175.1 < wr x4 then
            (m_search_97 x1 x2 n x3 x4 x5 x6 (x7 + 1) q175.2)
          else
            (j191 ())))))) FU x7 ((w 26 4) - 1) w))
theorem m_search_97_ok {lc : Launch} {κ : KX} {D : CX} {ad : Nat → Nat} {x1 x2 : Int} {v : Int × Wd} (X : gX κ D cX4_search RX4 rmX4_search lc 13) (Z : gQ κ D LAY ad none none v.2 0 0) : ∀ (n : Nat) (x3 : Int) (x4 : Int) (x5 : Int) (x6 : Int) (x7 : Int) (w : Wd), m_search_97 x1 x2 n x3 x4 x5 x6 x7 w = some v → G κ D LAY ad 0 0 w 97 [(0, .ref (ad 26)), (1, iv x1), (2, iv x2), (3, iv x3), (4, iv x4), (5, iv x5), (6, iv x6), (7, iv x7)] [] := by
  intro n
  induction n with
  | zero =>
    intro x3 x4 x5 x6 x7 w h
    cases h
  | succ n ih =>
    intro x3 x4 x5 x6 x7 w h
    rw [m_search_97] at h
    refine g_iload X 7 dX4_search_97 rfl ?_
    refine g_iload_n X 2 dX4_search_99 rfl rfl ?_
    refine g_icmp_ge X h dX4_search_100 (tgt := 327) (by decide) (fun h => ?_) (fun h => ?_)
    · exact g_vret X Z h dX4_search_327
    · refine g_iload X 7 dX4_search_103 rfl ?_
      refine g_istore X [1, 2, 3, 4, 5, 6, 7, 8, 0] (ls1 := [(0, .ref (ad 26)), (1, iv x1), (2, iv x2), (3, iv x3), (4, iv x4), (5, iv x5), (6, iv x6), (7, iv x7), (8, iv x7)]) dX4_search_105 (by decide) rfl ?_
      refine g_aload_n X 0 dX4_search_107 rfl rfl ?_
      refine gf_X4_54 X dX4_search_108 ?_
      refine g_iconst X dX4_search_111 ?_
      refine g_isub X dX4_search_112 ?_
      refine g_istore X [1, 2, 3, 4, 5, 6, 7, 8, 9, 0] (ls1 := [(0, .ref (ad 26)), (1, iv x1), (2, iv x2), (3, iv x3), (4, iv x4), (5, iv x5), (6, iv x6), (7, iv x7), (8, iv x7), (9, iv ((w 26 4) - 1))]) dX4_search_113 (by decide) rfl ?_
      refine m_search_115_ok X Z ?_ FU x7 ((w 26 4) - 1) w h
      · intro w170 h
        refine g_aload_n X 0 dX4_search_170 rfl rfl ?_
        refine g_aload_n X 0 dX4_search_171 rfl rfl ?_
        refine gf_X4_35 X dX4_search_172 ?_
        obtain ⟨q175, e175, h⟩ := bindE h
        refine g_callVi X (st := []) 26 [.ref (ad 35)] (mc_m_berthed rfl e175) cal_X4_berthed rfl rfl wm_X4_100 (by decide) rfl rfl ⟨by decide, by decide⟩ rfl (Nat.le_of_ble_eq_true rfl) dX4_search_175 ?_
        refine g_istore X [1, 2, 3, 4, 5, 6, 7, 8, 0] (ls1 := [(0, .ref (ad 26)), (1, iv x1), (2, iv x2), (3, iv x3), (4, iv x4), (5, iv x5), (6, iv x6), (7, iv x7), (9, iv q175.1)]) dX4_search_178 (by decide) rfl ?_
        refine g_iload_n X 3 dX4_search_180 rfl rfl ?_
        let j191 := fun (_ : Unit) => (((m_isGood q175.2).bind fun q192 =>
        (if wr q192.1 = 0 then
          (m_search_97 x1 x2 n x3 x4 x5 x6 (x7 + 1) q192.2)
        else
          (let j217 := fun (z217_0 : Int) (w217 : Wd) => 
              ((m_show 35 (w217 26 4) w217).bind fun q235 =>
              (let j275 := fun (_ : Unit) => 
                  (m_search_292 x1 x2 1 q175.1 z217_0 q235.1 x7 (fun (w321 : Wd) =>
                    (m_search_97 x1 x2 n 1 q175.1 z217_0 q235.1 (x7 + 1) w321)) FU 0 q235.2)
              (if wr x3 = 0 then
                (j275 ())
              else
                (if wr q175.1 = wr x4 then
                  (if wr x5 < wr z217_0 then
                    (m_search_97 x1 x2 n x3 x4 x5 x6 (x7 + 1) q235.2)
                  else
                    (if wr z217_0 = wr x5 then
                      (if wr x6 < wr q235.1 then
                        (j275 ())
                      else
                        (m_search_97 x1 x2 n x3 x4 x5 x6 (x7 + 1) q235.2))
                    else
                      (j275 ())))
                else
                  (j275 ())))))
          (if wr x1 = 0 then
            (j217 0 q192.2)
          else
            ((m_moved 35 q192.2).bind fun q210 =>
            (j217 q210.1 q210.2)))))))
        have J191 : ∀ (_u : Unit), (((m_isGood q175.2).bind fun q192 =>
        (if wr q192.1 = 0 then
          (m_search_97 x1 x2 n x3 x4 x5 x6 (x7 + 1) q192.2)
        else
          (let j217 := fun (z217_0 : Int) (w217 : Wd) => 
              ((m_show 35 (w217 26 4) w217).bind fun q235 =>
              (let j275 := fun (_ : Unit) => 
                  (m_search_292 x1 x2 1 q175.1 z217_0 q235.1 x7 (fun (w321 : Wd) =>
                    (m_search_97 x1 x2 n 1 q175.1 z217_0 q235.1 (x7 + 1) w321)) FU 0 q235.2)
              (if wr x3 = 0 then
                (j275 ())
              else
                (if wr q175.1 = wr x4 then
                  (if wr x5 < wr z217_0 then
                    (m_search_97 x1 x2 n x3 x4 x5 x6 (x7 + 1) q235.2)
                  else
                    (if wr z217_0 = wr x5 then
                      (if wr x6 < wr q235.1 then
                        (j275 ())
                      else
                        (m_search_97 x1 x2 n x3 x4 x5 x6 (x7 + 1) q235.2))
                    else
                      (j275 ())))
                else
                  (j275 ())))))
          (if wr x1 = 0 then
            (j217 0 q192.2)
          else
            ((m_moved 35 q192.2).bind fun q210 =>
            (j217 q210.1 q210.2))))))) = some v → G κ D LAY ad 0 0 q175.2 191 [(0, .ref (ad 26)), (1, iv x1), (2, iv x2), (3, iv x3), (4, iv x4), (5, iv x5), (6, iv x6), (7, iv x7), (9, iv q175.1)] [] := by
          intro _u h
          refine g_aload_n X 0 dX4_search_191 rfl rfl ?_
          obtain ⟨q192, e192, h⟩ := bindE h
          refine g_callVi X (st := []) 26 [] (mc_m_isGood e192) cal_X4_isGood rfl rfl wm_X4_118 (by decide) rfl rfl ⟨by decide, by decide⟩ rfl (Nat.le_of_ble_eq_true rfl) dX4_search_192 ?_
          refine g_if_ne X h dX4_search_195 (tgt := 201) (by decide) (fun h => ?_) (fun h => ?_)
          · refine g_iload_n X 1 dX4_search_201 rfl rfl ?_
            let j217 := fun (z217_0 : Int) (w217 : Wd) => (((m_show 35 (w217 26 4) w217).bind fun q235 =>
            (let j275 := fun (_ : Unit) => 
                (m_search_292 x1 x2 1 q175.1 z217_0 q235.1 x7 (fun (w321 : Wd) =>
                  (m_search_97 x1 x2 n 1 q175.1 z217_0 q235.1 (x7 + 1) w321)) FU 0 q235.2)
            (if wr x3 = 0 then
              (j275 ())
            else
              (if wr q175.1 = wr x4 then
                (if wr x5 < wr z217_0 then
                  (m_search_97 x1 x2 n x3 x4 x5 x6 (x7 + 1) q235.2)
                else
                  (if wr z217_0 = wr x5 then
                    (if wr x6 < wr q235.1 then
                      (j275 ())
                    else
                      (m_search_97 x1 x2 n x3 x4 x5 x6 (x7 + 1) q235.2))
                  else
                    (j275 ())))
              else
                (j275 ()))))))
            have J217 : ∀ (z217_0 : Int) (w217 : Wd), (((m_show 35 (w217 26 4) w217).bind fun q235 =>
            (let j275 := fun (_ : Unit) => 
                (m_search_292 x1 x2 1 q175.1 z217_0 q235.1 x7 (fun (w321 : Wd) =>
                  (m_search_97 x1 x2 n 1 q175.1 z217_0 q235.1 (x7 + 1) w321)) FU 0 q235.2)
            (if wr x3 = 0 then
              (j275 ())
            else
              (if wr q175.1 = wr x4 then
                (if wr x5 < wr z217_0 then
                  (m_search_97 x1 x2 n x3 x4 x5 x6 (x7 + 1) q235.2)
                else
                  (if wr z217_0 = wr x5 then
                    (if wr x6 < wr q235.1 then
                      (j275 ())
                    else
                      (m_search_97 x1 x2 n x3 x4 x5 x6 (x7 + 1) q235.2))
                  else
                    (j275 ())))
              else
                (j275 ())))))) = some v → G κ D LAY ad 0 0 w217 217 [(0, .ref (ad 26)), (1, iv x1), (2, iv x2), (3, iv x3), (4, iv x4), (5, iv x5), (6, iv x6), (7, iv x7), (9, iv q175.1)] [iv z217_0] := by
              intro z217_0 w217 h
              refine g_istore X [1, 2, 3, 4, 5, 6, 7, 8, 9, 0] (ls1 := [(0, .ref (ad 26)), (1, iv x1), (2, iv x2), (3, iv x3), (4, iv x4), (5, iv x5), (6, iv x6), (7, iv x7), (9, iv q175.1), (10, iv z217_0)]) dX4_search_217 (by decide) rfl ?_
              refine g_aload_n X 0 dX4_search_219 rfl rfl ?_
              refine gf_X4_19 X dX4_search_220 ?_
              refine g_aload_n X 0 dX4_search_223 rfl rfl ?_
              refine gf_X4_22 X dX4_search_224 ?_
              refine g_aload_n X 0 dX4_search_227 rfl rfl ?_
              refine gf_X4_35 X dX4_search_228 ?_
              refine g_aload_n X 0 dX4_search_231 rfl rfl ?_
              refine gf_X4_54 X dX4_search_232 ?_
              obtain ⟨q235, e235, h⟩ := bindE h
              refine g_callSi X (st := []) [.ref (ad 30), .ref (ad 31), .ref (ad 35), iv (w217 26 4)] (mc_m_show rfl e235) cal_X4_show wm_X4_104 (by decide) rfl rfl ⟨by decide, by decide⟩ rfl (Nat.le_of_ble_eq_true rfl) dX4_search_235 ?_
              refine g_istore X [1, 2, 3, 4, 5, 6, 7, 8, 9, 10, 0] (ls1 := [(0, .ref (ad 26)), (1, iv x1), (2, iv x2), (3, iv x3), (4, iv x4), (5, iv x5), (6, iv x6), (7, iv x7), (9, iv q175.1), (10, iv z217_0), (11, iv q235.1)]) dX4_search_238 (by decide) rfl ?_
              refine g_iload_n X 3 dX4_search_240 rfl rfl ?_
              let j275 := fun (_ : Unit) => ((m_search_292 x1 x2 1 q175.1 z217_0 q235.1 x7 (fun (w321 : Wd) =>
                (m_search_97 x1 x2 n 1 q175.1 z217_0 q235.1 (x7 + 1) w321)) FU 0 q235.2))
              have J275 : ∀ (_u : Unit), ((m_search_292 x1 x2 1 q175.1 z217_0 q235.1 x7 (fun (w321 : Wd) =>
                (m_search_97 x1 x2 n 1 q175.1 z217_0 q235.1 (x7 + 1) w321)) FU 0 q235.2)) = some v → G κ D LAY ad 0 0 q235.2 275 [(0, .ref (ad 26)), (1, iv x1), (2, iv x2), (7, iv x7), (9, iv q175.1), (10, iv z217_0), (11, iv q235.1)] [] := by
                intro _u h
                refine g_iconst X dX4_search_275 ?_
                refine g_istore_n X [1, 2, 3, 0, 4, 5, 6, 7] (ls1 := [(0, .ref (ad 26)), (1, iv x1), (2, iv x2), (3, iv 1), (7, iv x7), (9, iv q175.1), (10, iv z217_0), (11, iv q235.1)]) dX4_search_276 rfl (by decide) rfl ?_
                refine g_iload X 5 dX4_search_277 rfl ?_
                refine g_istore X [1, 2, 3, 4, 0, 5, 6, 7, 8] (ls1 := [(0, .ref (ad 26)), (1, iv x1), (2, iv x2), (3, iv 1), (4, iv q175.1), (7, iv x7), (9, iv q175.1), (10, iv z217_0), (11, iv q235.1)]) dX4_search_279 (by decide) rfl ?_
                refine g_iload X 7 dX4_search_281 rfl ?_
                refine g_istore X [1, 2, 3, 4, 5, 0, 6, 7, 8, 9] (ls1 := [(0, .ref (ad 26)), (1, iv x1), (2, iv x2), (3, iv 1), (4, iv q175.1), (5, iv z217_0), (7, iv x7), (9, iv q175.1), (10, iv z217_0), (11, iv q235.1)]) dX4_search_283 (by decide) rfl ?_
                refine g_iload X 9 dX4_search_285 rfl ?_
                refine g_istore X [1, 2, 3, 4, 5, 6, 0, 7, 8, 9, 10] (ls1 := [(0, .ref (ad 26)), (1, iv x1), (2, iv x2), (3, iv 1), (4, iv q175.1), (5, iv z217_0), (6, iv q235.1), (7, iv x7), (9, iv q175.1), (10, iv z217_0), (11, iv q235.1)]) dX4_search_287 (by decide) rfl ?_
                refine g_iconst X dX4_search_289 ?_
                refine g_istore X [1, 2, 3, 4, 5, 6, 7, 8, 9, 10, 11, 0] (ls1 := [(0, .ref (ad 26)), (1, iv x1), (2, iv x2), (3, iv 1), (4, iv q175.1), (5, iv z217_0), (6, iv q235.1), (7, iv x7), (9, iv q175.1), (10, iv z217_0), (11, iv q235.1), (12, iv 0)]) dX4_search_290 (by decide) rfl ?_
                refine g_sub [0, 1, 2, 3, 4, 5, 6, 7, 11] rfl ?_
                refine m_search_292_ok X Z ?_ FU 0 q235.2 h
                · intro w321 h
                  refine g_iinc X 7 [1, 2, 3, 4, 5, 6, 7, 0] (ls1 := [(0, .ref (ad 26)), (1, iv x1), (2, iv x2), (3, iv 1), (4, iv q175.1), (5, iv z217_0), (6, iv q235.1), (7, iv (x7 + 1))]) dX4_search_321 rfl (by decide) rfl ?_
                  refine g_goto X (tgt := 97) dX4_search_324 (by decide) ?_
                  exact ih 1 q175.1 z217_0 q235.1 (x7 + 1) w321 h
              refine g_if_eq X h dX4_search_241 (tgt := 275) (by decide) (fun h => ?_) (fun h => ?_)
              · refine g_sub [0, 1, 2, 7, 8, 9, 10] rfl ?_
                exact J275 () h
              · refine g_iload X 8 dX4_search_244 rfl ?_
                refine g_iload X 4 dX4_search_246 rfl ?_
                refine g_icmp_ne X h dX4_search_248 (tgt := 275) (by decide) (fun h => ?_) (fun h => ?_)
                · refine g_sub [0, 1, 2, 7, 8, 9, 10] rfl ?_
                  exact J275 () h
                · refine g_iload X 9 dX4_search_251 rfl ?_
                  refine g_iload X 5 dX4_search_253 rfl ?_
                  refine g_icmp_gt X h dX4_search_255 (tgt := 321) (by decide) (fun h => ?_) (fun h => ?_)
                  · refine g_iinc X 7 [1, 2, 3, 4, 5, 6, 7, 0, 8, 9, 10] (ls1 := [(0, .ref (ad 26)), (1, iv x1), (2, iv x2), (3, iv x3), (4, iv x4), (5, iv x5), (6, iv x6), (7, iv (x7 + 1)), (9, iv q175.1), (10, iv z217_0), (11, iv q235.1)]) dX4_search_321 rfl (by decide) rfl ?_
                    refine g_goto X (tgt := 97) dX4_search_324 (by decide) ?_
                    refine g_sub [0, 1, 2, 3, 4, 5, 6, 7] rfl ?_
                    exact ih x3 x4 x5 x6 (x7 + 1) q235.2 h
                  · refine g_iload X 9 dX4_search_258 rfl ?_
                    refine g_iload X 5 dX4_search_260 rfl ?_
                    refine g_icmp_ne X h dX4_search_262 (tgt := 275) (by decide) (fun h => ?_) (fun h => ?_)
                    · refine g_sub [0, 1, 2, 7, 8, 9, 10] rfl ?_
                      exact J275 () h
                    · refine g_iload X 10 dX4_search_265 rfl ?_
                      refine g_iload X 6 dX4_search_267 rfl ?_
                      refine g_icmp_gt X h dX4_search_269 (tgt := 275) (by decide) (fun h => ?_) (fun h => ?_)
                      · refine g_sub [0, 1, 2, 7, 8, 9, 10] rfl ?_
                        exact J275 () h
                      · refine g_goto X (tgt := 321) dX4_search_272 (by decide) ?_
                        refine g_iinc X 7 [1, 2, 3, 4, 5, 6, 7, 0, 8, 9, 10] (ls1 := [(0, .ref (ad 26)), (1, iv x1), (2, iv x2), (3, iv x3), (4, iv x4), (5, iv x5), (6, iv x6), (7, iv (x7 + 1)), (9, iv q175.1), (10, iv z217_0), (11, iv q235.1)]) dX4_search_321 rfl (by decide) rfl ?_
                        refine g_goto X (tgt := 97) dX4_search_324 (by decide) ?_
                        refine g_sub [0, 1, 2, 3, 4, 5, 6, 7] rfl ?_
                        exact ih x3 x4 x5 x6 (x7 + 1) q235.2 h
            refine g_if_eq X h dX4_search_202 (tgt := 216) (by decide) (fun h => ?_) (fun h => ?_)
            · refine g_iconst X dX4_search_216 ?_
              exact J217 0 q192.2 h
            · refine g_aload_n X 0 dX4_search_205 rfl rfl ?_
              refine g_aload_n X 0 dX4_search_206 rfl rfl ?_
              refine gf_X4_35 X dX4_search_207 ?_
              obtain ⟨q210, e210, h⟩ := bindE h
              refine g_callVi X (st := []) 26 [.ref (ad 35)] (mc_m_moved rfl e210) cal_X4_moved rfl rfl wm_X4_122 (by decide) rfl rfl ⟨by decide, by decide⟩ rfl (Nat.le_of_ble_eq_true rfl) dX4_search_210 ?_
              refine g_goto X (tgt := 217) dX4_search_213 (by decide) ?_
              exact J217 q210.1 q210.2 h
          · refine g_goto X (tgt := 321) dX4_search_198 (by decide) ?_
            refine g_iinc X 7 [1, 2, 3, 4, 5, 6, 7, 0, 8] (ls1 := [(0, .ref (ad 26)), (1, iv x1), (2, iv x2), (3, iv x3), (4, iv x4), (5, iv x5), (6, iv x6), (7, iv (x7 + 1)), (9, iv q175.1)]) dX4_search_321 rfl (by decide) rfl ?_
            refine g_goto X (tgt := 97) dX4_search_324 (by decide) ?_
            refine g_sub [0, 1, 2, 3, 4, 5, 6, 7] rfl ?_
            exact ih x3 x4 x5 x6 (x7 + 1) q192.2 h
        refine g_if_eq X h dX4_search_181 (tgt := 191) (by decide) (fun h => ?_) (fun h => ?_)
        · exact J191 () h
        · refine g_iload X 8 dX4_search_184 rfl ?_
          refine g_iload X 4 dX4_search_186 rfl ?_
          refine g_icmp_lt X h dX4_search_188 (tgt := 321) (by decide) (fun h => ?_) (fun h => ?_)
          · refine g_iinc X 7 [1, 2, 3, 4, 5, 6, 7, 0, 8] (ls1 := [(0, .ref (ad 26)), (1, iv x1), (2, iv x2), (3, iv x3), (4, iv x4), (5, iv x5), (6, iv x6), (7, iv (x7 + 1)), (9, iv q175.1)]) dX4_search_321 rfl (by decide) rfl ?_
            refine g_goto X (tgt := 97) dX4_search_324 (by decide) ?_
            refine g_sub [0, 1, 2, 3, 4, 5, 6, 7] rfl ?_
            exact ih x3 x4 x5 x6 (x7 + 1) q175.2 h
          · exact J191 () h
noncomputable def m_search (x1 : Int) (w : Wd) : Option (Int × Wd) :=
  (m_search_2 x1 (fun (w56 : Wd) =>
    (m_search_60 x1 (fun (e83_2 : Int) (w83 : Wd) =>
      (m_search_97 x1 e83_2 FU 0 0 0 0 0 w83)) FU 1 0 w56)) FU 0 w)
theorem mc_m_search {lc : Launch} {D : CX} {ad : Nat → Nat} {w : Wd} {x1 : Int} {v : Int × Wd} (h : m_search x1 w = some v) : Mc lc yX4_search cX4_search 13 none rmX4_search D LAY ad [.ref (ad 26), iv x1] w none v.2 0 0 := by
  refine mc_of (by decide) (Nat.le_of_ble_eq_true rfl) ?_
  intro κ X Z
  show G κ D LAY ad 0 0 w 0 [(0, .ref (ad 26)), (1, iv x1)] []
  unfold m_search at h
  refine g_iconst X dX4_search_0 ?_
  refine g_istore_n X [1, 2, 0] (ls1 := [(0, .ref (ad 26)), (1, iv x1), (2, iv 0)]) dX4_search_1 rfl (by decide) rfl ?_
  refine m_search_2_ok X Z ?_ FU 0 w h
  · intro w56 h
    refine g_iconst X dX4_search_56 ?_
    refine g_istore_n X [1, 2, 0] (ls1 := [(0, .ref (ad 26)), (1, iv x1), (2, iv 1)]) dX4_search_57 rfl (by decide) rfl ?_
    refine g_iconst X dX4_search_58 ?_
    refine g_istore_n X [1, 2, 3, 0] (ls1 := [(0, .ref (ad 26)), (1, iv x1), (2, iv 1), (3, iv 0)]) dX4_search_59 rfl (by decide) rfl ?_
    refine m_search_60_ok X Z ?_ FU 1 0 w56 h
    · intro e83_2 w83 h
      refine g_iconst X dX4_search_83 ?_
      refine g_istore_n X [1, 2, 3, 0] (ls1 := [(0, .ref (ad 26)), (1, iv x1), (2, iv e83_2), (3, iv 0)]) dX4_search_84 rfl (by decide) rfl ?_
      refine g_iconst X dX4_search_85 ?_
      refine g_istore X [1, 2, 3, 4, 0] (ls1 := [(0, .ref (ad 26)), (1, iv x1), (2, iv e83_2), (3, iv 0), (4, iv 0)]) dX4_search_86 (by decide) rfl ?_
      refine g_iconst X dX4_search_88 ?_
      refine g_istore X [1, 2, 3, 4, 5, 0] (ls1 := [(0, .ref (ad 26)), (1, iv x1), (2, iv e83_2), (3, iv 0), (4, iv 0), (5, iv 0)]) dX4_search_89 (by decide) rfl ?_
      refine g_iconst X dX4_search_91 ?_
      refine g_istore X [1, 2, 3, 4, 5, 6, 0] (ls1 := [(0, .ref (ad 26)), (1, iv x1), (2, iv e83_2), (3, iv 0), (4, iv 0), (5, iv 0), (6, iv 0)]) dX4_search_92 (by decide) rfl ?_
      refine g_iconst X dX4_search_94 ?_
      refine g_istore X [1, 2, 3, 4, 5, 6, 7, 0] (ls1 := [(0, .ref (ad 26)), (1, iv x1), (2, iv e83_2), (3, iv 0), (4, iv 0), (5, iv 0), (6, iv 0), (7, iv 0)]) dX4_search_95 (by decide) rfl ?_
      refine m_search_97_ok X Z FU 0 0 0 0 0 w83 h

/-! TallShipsModel.best -/
noncomputable def m_best_12 (k1 : Wd → Option (Int × Wd)) : Nat → Int → Wd → Option (Int × Wd)
  | 0, _, _ => none
  | n + 1, x1, w =>
    (if wr (w 26 4) ≤ wr x1 then
      (k1 w)
    else
      (if 0 ≤ x1 ∧ x1 < 7 then
      (if 0 ≤ x1 ∧ x1 < 7 then
      (m_best_12 k1 n (x1 + 1) (wset w 33 x1.toNat (w 36 x1.toNat)))
      else none)
      else none))
theorem m_best_12_ok {lc : Launch} {κ : KX} {D : CX} {ad : Nat → Nat} {k1 : Wd → Option (Int × Wd)} {v : Int × Wd} (X : gX κ D cX4_best RX4 rmX4_best lc 2) (Z : gQ κ D LAY ad (some .int) (some (iv v.1)) v.2 0 0) (hk1 : ∀ (w : Wd), k1 w = some v → G κ D LAY ad 0 0 w 38 [(0, .ref (ad 26))] []) : ∀ (n : Nat) (x1 : Int) (w : Wd), m_best_12 k1 n x1 w = some v → G κ D LAY ad 0 0 w 12 [(0, .ref (ad 26)), (1, iv x1)] [] := by
  intro n
  induction n with
  | zero =>
    intro x1 w h
    cases h
  | succ n ih =>
    intro x1 w h
    rw [m_best_12] at h
    refine g_iload_n X 1 dX4_best_12 rfl rfl ?_
    refine g_aload_n X 0 dX4_best_13 rfl rfl ?_
    refine gf_X4_54 X dX4_best_14 ?_
    refine g_icmp_ge X h dX4_best_17 (tgt := 38) (by decide) (fun h => ?_) (fun h => ?_)
    · refine g_sub [0] rfl ?_
      exact hk1 w h
    · refine g_aload_n X 0 dX4_best_20 rfl rfl ?_
      refine gf_X4_29 X dX4_best_21 ?_
      refine g_iload_n X 1 dX4_best_24 rfl rfl ?_
      refine g_aload_n X 0 dX4_best_25 rfl rfl ?_
      refine gf_X4_38 X dX4_best_26 ?_
      refine g_iload_n X 1 dX4_best_29 rfl rfl ?_
      refine g_iald X (n := 7) (c := 36) h rfl (by decide) dX4_best_30 (fun h => ?_)
      refine g_iast X (n := 7) (c := 33) h rfl (by decide) dX4_best_31 (fun h => ?_)
      refine g_iinc X 1 [1, 0] (ls1 := [(0, .ref (ad 26)), (1, iv (x1 + 1))]) dX4_best_32 rfl (by decide) rfl ?_
      refine g_goto X (tgt := 12) dX4_best_35 (by decide) ?_
      exact ih (x1 + 1) (wset w 33 x1.toNat (w 36 x1.toNat)) h
noncomputable def m_best (w : Wd) : Option (Int × Wd) :=
  ((m_search 0 (wset w 26 10 0)).bind fun q7 =>
  (m_best_12 (fun (w38 : Wd) =>
    ((m_berthed 33 w38).bind fun q43 =>
    some (q43.1, q43.2))) FU 0 q7.2))
theorem mc_m_best {lc : Launch} {D : CX} {ad : Nat → Nat} {w : Wd} {v : Int × Wd} (h : m_best w = some v) : Mc lc yX4_best cX4_best 2 (some .int) rmX4_best D LAY ad [.ref (ad 26)] w (some (iv v.1)) v.2 0 0 := by
  refine mc_of (by decide) (Nat.le_of_ble_eq_true rfl) ?_
  intro κ X Z
  show G κ D LAY ad 0 0 w 0 [(0, .ref (ad 26))] []
  unfold m_best at h
  refine g_aload_n X 0 dX4_best_0 rfl rfl ?_
  refine g_iconst X dX4_best_1 ?_
  refine gp_X4_50 X dX4_best_2 ?_
  refine g_aload_n X 0 dX4_best_5 rfl rfl ?_
  refine g_iconst X dX4_best_6 ?_
  obtain ⟨q7, e7, h⟩ := bindE h
  refine g_callVv X (st := []) 26 [iv 0] (mc_m_search e7) cal_X4_search rfl rfl wm_X4_125 (by decide) rfl rfl ⟨by decide, by decide⟩ rfl (Nat.le_of_ble_eq_true rfl) dX4_best_7 ?_
  refine g_iconst X dX4_best_10 ?_
  refine g_istore_n X [1, 0] (ls1 := [(0, .ref (ad 26)), (1, iv 0)]) dX4_best_11 rfl (by decide) rfl ?_
  refine m_best_12_ok X Z ?_ FU 0 q7.2 h
  · intro w38 h
    refine g_aload_n X 0 dX4_best_38 rfl rfl ?_
    refine g_aload_n X 0 dX4_best_39 rfl rfl ?_
    refine gf_X4_29 X dX4_best_40 ?_
    obtain ⟨q43, e43, h⟩ := bindE h
    refine g_callVi X (st := []) 26 [.ref (ad 33)] (mc_m_berthed rfl e43) cal_X4_berthed rfl rfl wm_X4_100 (by decide) rfl rfl ⟨by decide, by decide⟩ rfl (Nat.le_of_ble_eq_true rfl) dX4_best_43 ?_
    exact g_iret X Z h dX4_best_46

/-! TallShipsModel.mend -/
noncomputable def m_mend_21 (x1 : Int) : Nat → Int → Wd → Option (Int × Wd)
  | 0, _, _ => none
  | n + 1, x2, w =>
    (if wr (w 26 4) ≤ wr x2 then
      some (x1, w)
    else
      (if 0 ≤ x2 ∧ x2 < 7 then
      (if 0 ≤ x2 ∧ x2 < 7 then
      (m_mend_21 x1 n (x2 + 1) (wset w 33 x2.toNat (w 36 x2.toNat)))
      else none)
      else none))
theorem m_mend_21_ok {lc : Launch} {κ : KX} {D : CX} {ad : Nat → Nat} {x1 : Int} {v : Int × Wd} (X : gX κ D cX4_mend RX4 rmX4_mend lc 3) (Z : gQ κ D LAY ad (some .int) (some (iv v.1)) v.2 0 0) : ∀ (n : Nat) (x2 : Int) (w : Wd), m_mend_21 x1 n x2 w = some v → G κ D LAY ad 0 0 w 21 [(0, .ref (ad 26)), (1, iv x1), (2, iv x2)] [] := by
  intro n
  induction n with
  | zero =>
    intro x2 w h
    cases h
  | succ n ih =>
    intro x2 w h
    rw [m_mend_21] at h
    refine g_iload_n X 2 dX4_mend_21 rfl rfl ?_
    refine g_aload_n X 0 dX4_mend_22 rfl rfl ?_
    refine gf_X4_54 X dX4_mend_23 ?_
    refine g_icmp_ge X h dX4_mend_26 (tgt := 47) (by decide) (fun h => ?_) (fun h => ?_)
    · refine g_iload_n X 1 dX4_mend_47 rfl rfl ?_
      exact g_iret X Z h dX4_mend_48
    · refine g_aload_n X 0 dX4_mend_29 rfl rfl ?_
      refine gf_X4_29 X dX4_mend_30 ?_
      refine g_iload_n X 2 dX4_mend_33 rfl rfl ?_
      refine g_aload_n X 0 dX4_mend_34 rfl rfl ?_
      refine gf_X4_38 X dX4_mend_35 ?_
      refine g_iload_n X 2 dX4_mend_38 rfl rfl ?_
      refine g_iald X (n := 7) (c := 36) h rfl (by decide) dX4_mend_39 (fun h => ?_)
      refine g_iast X (n := 7) (c := 33) h rfl (by decide) dX4_mend_40 (fun h => ?_)
      refine g_iinc X 2 [1, 2, 0] (ls1 := [(0, .ref (ad 26)), (1, iv x1), (2, iv (x2 + 1))]) dX4_mend_41 rfl (by decide) rfl ?_
      refine g_goto X (tgt := 21) dX4_mend_44 (by decide) ?_
      exact ih (x2 + 1) (wset w 33 x2.toNat (w 36 x2.toNat)) h
noncomputable def m_mend (w : Wd) : Option (Int × Wd) :=
  ((m_search 1 (wset w 26 10 0)).bind fun q7 =>
  ((m_moved 36 q7.2).bind fun q15 =>
  (m_mend_21 q15.1 FU 0 q15.2)))
theorem mc_m_mend {lc : Launch} {D : CX} {ad : Nat → Nat} {w : Wd} {v : Int × Wd} (h : m_mend w = some v) : Mc lc yX4_mend cX4_mend 3 (some .int) rmX4_mend D LAY ad [.ref (ad 26)] w (some (iv v.1)) v.2 0 0 := by
  refine mc_of (by decide) (Nat.le_of_ble_eq_true rfl) ?_
  intro κ X Z
  show G κ D LAY ad 0 0 w 0 [(0, .ref (ad 26))] []
  unfold m_mend at h
  refine g_aload_n X 0 dX4_mend_0 rfl rfl ?_
  refine g_iconst X dX4_mend_1 ?_
  refine gp_X4_50 X dX4_mend_2 ?_
  refine g_aload_n X 0 dX4_mend_5 rfl rfl ?_
  refine g_iconst X dX4_mend_6 ?_
  obtain ⟨q7, e7, h⟩ := bindE h
  refine g_callVv X (st := []) 26 [iv 1] (mc_m_search e7) cal_X4_search rfl rfl wm_X4_125 (by decide) rfl rfl ⟨by decide, by decide⟩ rfl (Nat.le_of_ble_eq_true rfl) dX4_mend_7 ?_
  refine g_aload_n X 0 dX4_mend_10 rfl rfl ?_
  refine g_aload_n X 0 dX4_mend_11 rfl rfl ?_
  refine gf_X4_38 X dX4_mend_12 ?_
  obtain ⟨q15, e15, h⟩ := bindE h
  refine g_callVi X (st := []) 26 [.ref (ad 36)] (mc_m_moved rfl e15) cal_X4_moved rfl rfl wm_X4_122 (by decide) rfl rfl ⟨by decide, by decide⟩ rfl (Nat.le_of_ble_eq_true rfl) dX4_mend_15 ?_
  refine g_istore_n X [1, 0] (ls1 := [(0, .ref (ad 26)), (1, iv q15.1)]) dX4_mend_18 rfl (by decide) rfl ?_
  refine g_iconst X dX4_mend_19 ?_
  refine g_istore_n X [1, 2, 0] (ls1 := [(0, .ref (ad 26)), (1, iv q15.1), (2, iv 0)]) dX4_mend_20 rfl (by decide) rfl ?_
  refine m_mend_21_ok X Z FU 0 q15.2 h

/-! TallShipsModel.mayCome -/
noncomputable def m_mayCome (x1 x2 : Int) (w : Wd) : Option (Int × Wd) :=
  (if 0 ≤ x1 ∧ x1 < 7 then
  (if wr (w 33 x1.toNat) = wr (-1) then
    some (0, w)
  else
    (if 0 ≤ x1 ∧ x1 < 7 then
    (let j32 := fun (_ : Unit) => 
        (if 0 ≤ ((7 * x1) + 5) ∧ ((7 * x1) + 5) < 49 then
        (if wr x2 < wr (w 30 ((7 * x1) + 5).toNat) then
          some (0, w)
        else
          (if 0 ≤ ((7 * x1) + 4) ∧ ((7 * x1) + 4) < 49 then
          (if 0 ≤ x2 ∧ x2 < 120 then
          (if wr (w 29 x2.toNat) < wr (w 30 ((7 * x1) + 4).toNat) then
            some (0, w)
          else
            (if 0 ≤ x1 ∧ x1 < 7 then
            ((m_isAbove (w 33 x1.toNat) w).bind fun q77 =>
            ((m_comes x1 x2 q77.1 q77.2).bind fun q80 =>
            (if wr q80.1 = 0 then
              some (0, q80.2)
            else
              some (1, q80.2))))
            else none))
          else none)
          else none))
        else none)
    (if wr (w 39 x1.toNat) = wr (-1) then
      (j32 ())
    else
      (if 0 ≤ x1 ∧ x1 < 7 then
      (if wr (w 39 x1.toNat) = wr x2 then
        (j32 ())
      else
        some (0, w))
      else none)))
    else none))
  else none)
theorem mc_m_mayCome {lc : Launch} {D : CX} {ad : Nat → Nat} {w : Wd} {x1 x2 : Int} {v : Int × Wd} (h : m_mayCome x1 x2 w = some v) : Mc lc yX4_mayCome cX4_mayCome 3 (some .boolean) rmX4_mayCome D LAY ad [.ref (ad 26), iv x1, iv x2] w (some (iv v.1)) v.2 0 0 := by
  refine mc_of (by decide) (Nat.le_of_ble_eq_true rfl) ?_
  intro κ X Z
  show G κ D LAY ad 0 0 w 0 [(0, .ref (ad 26)), (1, iv x1), (2, iv x2)] []
  unfold m_mayCome at h
  refine g_aload_n X 0 dX4_mayCome_0 rfl rfl ?_
  refine gf_X4_29 X dX4_mayCome_1 ?_
  refine g_iload_n X 1 dX4_mayCome_4 rfl rfl ?_
  refine g_iald X (n := 7) (c := 33) h rfl (by decide) dX4_mayCome_5 (fun h => ?_)
  refine g_iconst X dX4_mayCome_6 ?_
  refine g_icmp_eq X h dX4_mayCome_7 (tgt := 30) (by decide) (fun h => ?_) (fun h => ?_)
  · refine g_iconst X dX4_mayCome_30 ?_
    exact g_zretC X Z h (by decide) dX4_mayCome_31
  · refine g_aload_n X 0 dX4_mayCome_10 rfl rfl ?_
    refine gf_X4_47 X dX4_mayCome_11 ?_
    refine g_iload_n X 1 dX4_mayCome_14 rfl rfl ?_
    refine g_iald X (n := 7) (c := 39) h rfl (by decide) dX4_mayCome_15 (fun h => ?_)
    refine g_iconst X dX4_mayCome_16 ?_
    let j32 := fun (_ : Unit) => ((if 0 ≤ ((7 * x1) + 5) ∧ ((7 * x1) + 5) < 49 then
    (if wr x2 < wr (w 30 ((7 * x1) + 5).toNat) then
      some (0, w)
    else
      (if 0 ≤ ((7 * x1) + 4) ∧ ((7 * x1) + 4) < 49 then
      (if 0 ≤ x2 ∧ x2 < 120 then
      (if wr (w 29 x2.toNat) < wr (w 30 ((7 * x1) + 4).toNat) then
        some (0, w)
      else
        (if 0 ≤ x1 ∧ x1 < 7 then
        ((m_isAbove (w 33 x1.toNat) w).bind fun q77 =>
        ((m_comes x1 x2 q77.1 q77.2).bind fun q80 =>
        (if wr q80.1 = 0 then
          some (0, q80.2)
        else
          some (1, q80.2))))
        else none))
      else none)
      else none))
    else none))
    have J32 : ∀ (_u : Unit), ((if 0 ≤ ((7 * x1) + 5) ∧ ((7 * x1) + 5) < 49 then
    (if wr x2 < wr (w 30 ((7 * x1) + 5).toNat) then
      some (0, w)
    else
      (if 0 ≤ ((7 * x1) + 4) ∧ ((7 * x1) + 4) < 49 then
      (if 0 ≤ x2 ∧ x2 < 120 then
      (if wr (w 29 x2.toNat) < wr (w 30 ((7 * x1) + 4).toNat) then
        some (0, w)
      else
        (if 0 ≤ x1 ∧ x1 < 7 then
        ((m_isAbove (w 33 x1.toNat) w).bind fun q77 =>
        ((m_comes x1 x2 q77.1 q77.2).bind fun q80 =>
        (if wr q80.1 = 0 then
          some (0, q80.2)
        else
          some (1, q80.2))))
        else none))
      else none)
      else none))
    else none)) = some v → G κ D LAY ad 0 0 w 32 [(0, .ref (ad 26)), (1, iv x1), (2, iv x2)] [] := by
      intro _u h
      refine g_iload_n X 2 dX4_mayCome_32 rfl rfl ?_
      refine g_aload_n X 0 dX4_mayCome_33 rfl rfl ?_
      refine gf_X4_19 X dX4_mayCome_34 ?_
      refine g_bipush X 7 dX4_mayCome_37 (by decide) ?_
      refine g_iload_n X 1 dX4_mayCome_39 rfl rfl ?_
      refine g_imul X dX4_mayCome_40 ?_
      refine g_iconst X dX4_mayCome_41 ?_
      refine g_iadd X dX4_mayCome_42 ?_
      refine g_iald X (n := 49) (c := 30) h rfl (by decide) dX4_mayCome_43 (fun h => ?_)
      refine g_icmp_lt X h dX4_mayCome_44 (tgt := 90) (by decide) (fun h => ?_) (fun h => ?_)
      · refine g_iconst X dX4_mayCome_90 ?_
        exact g_zretC X Z h (by decide) dX4_mayCome_91
      · refine g_aload_n X 0 dX4_mayCome_47 rfl rfl ?_
        refine gf_X4_19 X dX4_mayCome_48 ?_
        refine g_bipush X 7 dX4_mayCome_51 (by decide) ?_
        refine g_iload_n X 1 dX4_mayCome_53 rfl rfl ?_
        refine g_imul X dX4_mayCome_54 ?_
        refine g_iconst X dX4_mayCome_55 ?_
        refine g_iadd X dX4_mayCome_56 ?_
        refine g_iald X (n := 49) (c := 30) h rfl (by decide) dX4_mayCome_57 (fun h => ?_)
        refine g_aload_n X 0 dX4_mayCome_58 rfl rfl ?_
        refine gf_X4_16 X dX4_mayCome_59 ?_
        refine g_iload_n X 2 dX4_mayCome_62 rfl rfl ?_
        refine g_iald X (n := 120) (c := 29) h rfl (by decide) dX4_mayCome_63 (fun h => ?_)
        refine g_icmp_gt X h dX4_mayCome_64 (tgt := 90) (by decide) (fun h => ?_) (fun h => ?_)
        · refine g_iconst X dX4_mayCome_90 ?_
          exact g_zretC X Z h (by decide) dX4_mayCome_91
        · refine g_aload_n X 0 dX4_mayCome_67 rfl rfl ?_
          refine g_iload_n X 1 dX4_mayCome_68 rfl rfl ?_
          refine g_iload_n X 2 dX4_mayCome_69 rfl rfl ?_
          refine g_aload_n X 0 dX4_mayCome_70 rfl rfl ?_
          refine g_aload_n X 0 dX4_mayCome_71 rfl rfl ?_
          refine gf_X4_29 X dX4_mayCome_72 ?_
          refine g_iload_n X 1 dX4_mayCome_75 rfl rfl ?_
          refine g_iald X (n := 7) (c := 33) h rfl (by decide) dX4_mayCome_76 (fun h => ?_)
          obtain ⟨q77, e77, h⟩ := bindE h
          refine g_callVi X (st := [iv x2, iv x1, .ref (ad 26)]) 26 [iv (w 33 x1.toNat)] (mc_m_isAbove e77) cal_X4_isAbove rfl rfl wm_X4_90 (by decide) rfl rfl ⟨by decide, by decide⟩ rfl (Nat.le_of_ble_eq_true rfl) dX4_mayCome_77 ?_
          obtain ⟨q80, e80, h⟩ := bindE h
          refine g_callVi X (st := []) 26 [iv x1, iv x2, iv q77.1] (mc_m_comes e80) cal_X4_comes rfl rfl wm_X4_78 (by decide) rfl rfl ⟨by decide, by decide⟩ rfl (Nat.le_of_ble_eq_true rfl) dX4_mayCome_80 ?_
          refine g_if_eq X h dX4_mayCome_83 (tgt := 90) (by decide) (fun h => ?_) (fun h => ?_)
          · refine g_iconst X dX4_mayCome_90 ?_
            exact g_zretC X Z h (by decide) dX4_mayCome_91
          · refine g_iconst X dX4_mayCome_86 ?_
            refine g_goto X (tgt := 91) dX4_mayCome_87 (by decide) ?_
            exact g_zretC X Z h (by decide) dX4_mayCome_91
    refine g_icmp_eq X h dX4_mayCome_17 (tgt := 32) (by decide) (fun h => ?_) (fun h => ?_)
    · exact J32 () h
    · refine g_aload_n X 0 dX4_mayCome_20 rfl rfl ?_
      refine gf_X4_47 X dX4_mayCome_21 ?_
      refine g_iload_n X 1 dX4_mayCome_24 rfl rfl ?_
      refine g_iald X (n := 7) (c := 39) h rfl (by decide) dX4_mayCome_25 (fun h => ?_)
      refine g_iload_n X 2 dX4_mayCome_26 rfl rfl ?_
      refine g_icmp_eq X h dX4_mayCome_27 (tgt := 32) (by decide) (fun h => ?_) (fun h => ?_)
      · exact J32 () h
      · refine g_iconst X dX4_mayCome_30 ?_
        exact g_zretC X Z h (by decide) dX4_mayCome_31

/-! TallShipsModel.sumOf -/
noncomputable def m_sumOf_11 (x1 : Int) (k1 : Int → Wd → Option (Int × Wd)) : Nat → Int → Int → Wd → Option (Int × Wd)
  | 0, _, _, _ => none
  | n + 1, x2, x3, w =>
    (if wr (w 26 4) ≤ wr x3 then
      (k1 x2 w)
    else
      (if 0 ≤ x3 ∧ x3 < 7 then
      (if wr (w 33 x3.toNat) = wr (-1) then
        (m_sumOf_11 x1 k1 n x2 (x3 + 1) w)
      else
        (m_sumOf_11 x1 k1 n (bor x2 (bshl 1 x3)) (x3 + 1) w))
      else none))
theorem m_sumOf_11_ok {lc : Launch} {κ : KX} {D : CX} {ad : Nat → Nat} {x1 : Int} {k1 : Int → Wd → Option (Int × Wd)} {v : Int × Wd} (X : gX κ D cX4_sumOf RX4 rmX4_sumOf lc 8) (Z : gQ κ D LAY ad (some .int) (some (iv v.1)) v.2 0 0) (hk1 : ∀ (x2 : Int) (w : Wd), k1 x2 w = some v → G κ D LAY ad 0 0 w 41 [(0, .ref (ad 26)), (1, iv x1), (2, iv x2)] []) : ∀ (n : Nat) (x2 : Int) (x3 : Int) (w : Wd), m_sumOf_11 x1 k1 n x2 x3 w = some v → G κ D LAY ad 0 0 w 11 [(0, .ref (ad 26)), (1, iv x1), (2, iv x2), (3, iv x3)] [] := by
  intro n
  induction n with
  | zero =>
    intro x2 x3 w h
    cases h
  | succ n ih =>
    intro x2 x3 w h
    rw [m_sumOf_11] at h
    refine g_iload_n X 3 dX4_sumOf_11 rfl rfl ?_
    refine g_aload_n X 0 dX4_sumOf_12 rfl rfl ?_
    refine gf_X4_54 X dX4_sumOf_13 ?_
    refine g_icmp_ge X h dX4_sumOf_16 (tgt := 41) (by decide) (fun h => ?_) (fun h => ?_)
    · refine g_sub [0, 1, 2] rfl ?_
      exact hk1 x2 w h
    · refine g_aload_n X 0 dX4_sumOf_19 rfl rfl ?_
      refine gf_X4_29 X dX4_sumOf_20 ?_
      refine g_iload_n X 3 dX4_sumOf_23 rfl rfl ?_
      refine g_iald X (n := 7) (c := 33) h rfl (by decide) dX4_sumOf_24 (fun h => ?_)
      refine g_iconst X dX4_sumOf_25 ?_
      refine g_icmp_eq X h dX4_sumOf_26 (tgt := 35) (by decide) (fun h => ?_) (fun h => ?_)
      · refine g_iinc X 3 [1, 2, 3, 0] (ls1 := [(0, .ref (ad 26)), (1, iv x1), (2, iv x2), (3, iv (x3 + 1))]) dX4_sumOf_35 rfl (by decide) rfl ?_
        refine g_goto X (tgt := 11) dX4_sumOf_38 (by decide) ?_
        exact ih x2 (x3 + 1) w h
      · refine g_iload_n X 2 dX4_sumOf_29 rfl rfl ?_
        refine g_iconst X dX4_sumOf_30 ?_
        refine g_iload_n X 3 dX4_sumOf_31 rfl rfl ?_
        refine g_ishl X dX4_sumOf_32 ?_
        refine g_ior X dX4_sumOf_33 ?_
        refine g_istore_n X [1, 2, 0, 3] (ls1 := [(0, .ref (ad 26)), (1, iv x1), (2, iv (bor x2 (bshl 1 x3))), (3, iv x3)]) dX4_sumOf_34 rfl (by decide) rfl ?_
        refine g_iinc X 3 [1, 2, 3, 0] (ls1 := [(0, .ref (ad 26)), (1, iv x1), (2, iv (bor x2 (bshl 1 x3))), (3, iv (x3 + 1))]) dX4_sumOf_35 rfl (by decide) rfl ?_
        refine g_goto X (tgt := 11) dX4_sumOf_38 (by decide) ?_
        exact ih (bor x2 (bshl 1 x3)) (x3 + 1) w h
noncomputable def m_sumOf_43 (x1 x2 : Int) (k1 : Wd → Option (Int × Wd)) : Nat → Int → Wd → Option (Int × Wd)
  | 0, _, _ => none
  | n + 1, x3, w =>
    (if wr x1 ≤ wr x3 then
      (k1 w)
    else
      (let j68 := fun (z68_0 : Int) => 
          (if 0 ≤ ((120 * x1) + x3) ∧ ((120 * x1) + x3) < 15488 then
          (m_sumOf_43 x1 x2 k1 n (x3 + 1) (wset w 38 ((120 * x1) + x3).toNat z68_0))
          else none)
      (if wr x3 = 0 then
        (j68 0)
      else
        (j68 268435456))))
theorem m_sumOf_43_ok {lc : Launch} {κ : KX} {D : CX} {ad : Nat → Nat} {x1 x2 : Int} {k1 : Wd → Option (Int × Wd)} {v : Int × Wd} (X : gX κ D cX4_sumOf RX4 rmX4_sumOf lc 8) (Z : gQ κ D LAY ad (some .int) (some (iv v.1)) v.2 0 0) (hk1 : ∀ (w : Wd), k1 w = some v → G κ D LAY ad 0 0 w 75 [(0, .ref (ad 26)), (1, iv x1), (2, iv x2)] []) : ∀ (n : Nat) (x3 : Int) (w : Wd), m_sumOf_43 x1 x2 k1 n x3 w = some v → G κ D LAY ad 0 0 w 43 [(0, .ref (ad 26)), (1, iv x1), (2, iv x2), (3, iv x3)] [] := by
  intro n
  induction n with
  | zero =>
    intro x3 w h
    cases h
  | succ n ih =>
    intro x3 w h
    rw [m_sumOf_43] at h
    refine g_iload_n X 3 dX4_sumOf_43 rfl rfl ?_
    refine g_iload_n X 1 dX4_sumOf_44 rfl rfl ?_
    refine g_icmp_ge X h dX4_sumOf_45 (tgt := 75) (by decide) (fun h => ?_) (fun h => ?_)
    · refine g_sub [0, 1, 2] rfl ?_
      exact hk1 w h
    · refine g_aload_n X 0 dX4_sumOf_48 rfl rfl ?_
      refine gf_X4_44 X dX4_sumOf_49 ?_
      refine g_bipush X 120 dX4_sumOf_52 (by decide) ?_
      refine g_iload_n X 1 dX4_sumOf_54 rfl rfl ?_
      refine g_imul X dX4_sumOf_55 ?_
      refine g_iload_n X 3 dX4_sumOf_56 rfl rfl ?_
      refine g_iadd X dX4_sumOf_57 ?_
      refine g_iload_n X 3 dX4_sumOf_58 rfl rfl ?_
      let j68 := fun (z68_0 : Int) => ((if 0 ≤ ((120 * x1) + x3) ∧ ((120 * x1) + x3) < 15488 then
      (m_sumOf_43 x1 x2 k1 n (x3 + 1) (wset w 38 ((120 * x1) + x3).toNat z68_0))
      else none))
      have J68 : ∀ (z68_0 : Int), ((if 0 ≤ ((120 * x1) + x3) ∧ ((120 * x1) + x3) < 15488 then
      (m_sumOf_43 x1 x2 k1 n (x3 + 1) (wset w 38 ((120 * x1) + x3).toNat z68_0))
      else none)) = some v → G κ D LAY ad 0 0 w 68 [(0, .ref (ad 26)), (1, iv x1), (2, iv x2), (3, iv x3)] [iv z68_0, iv ((120 * x1) + x3), .ref (ad 38)] := by
        intro z68_0 h
        refine g_iast X (n := 15488) (c := 38) h rfl (by decide) dX4_sumOf_68 (fun h => ?_)
        refine g_iinc X 3 [1, 2, 3, 0] (ls1 := [(0, .ref (ad 26)), (1, iv x1), (2, iv x2), (3, iv (x3 + 1))]) dX4_sumOf_69 rfl (by decide) rfl ?_
        refine g_goto X (tgt := 43) dX4_sumOf_72 (by decide) ?_
        exact ih (x3 + 1) (wset w 38 ((120 * x1) + x3).toNat z68_0) h
      refine g_if_ne X h dX4_sumOf_59 (tgt := 66) (by decide) (fun h => ?_) (fun h => ?_)
      · refine g_ldc X 268435456 dX4_sumOf_66 wk_X4_129 ?_
        exact J68 268435456 h
      · refine g_iconst X dX4_sumOf_62 ?_
        refine g_goto X (tgt := 68) dX4_sumOf_63 (by decide) ?_
        exact J68 0 h
noncomputable def m_sumOf_109 (x1 x2 x3 x4 : Int) (k1 : Int → Wd → Option (Int × Wd)) : Nat → Int → Int → Wd → Option (Int × Wd)
  | 0, _, _, _ => none
  | n + 1, x5, x6, w =>
    (if wr (w 26 4) ≤ wr x6 then
      (k1 x5 w)
    else
      (if wr (band (bshr x4 x6) 1) = 0 then
        (m_sumOf_109 x1 x2 x3 x4 k1 n x5 (x6 + 1) w)
      else
        ((m_mayCome x6 x3 w).bind fun q132 =>
        (if wr q132.1 = 0 then
          (m_sumOf_109 x1 x2 x3 x4 k1 n x5 (x6 + 1) q132.2)
        else
          (if 0 ≤ ((7 * x6) + 5) ∧ ((7 * x6) + 5) < 49 then
          (if 0 ≤ (((x3 + 1) * x1) + (bxor x4 (bshl 1 x6))) ∧ (((x3 + 1) * x1) + (bxor x4 (bshl 1 x6))) < 15488 then
          (if wr x5 ≤ wr ((x3 - (q132.2 30 ((7 * x6) + 5).toNat)) + (q132.2 38 (((x3 + 1) * x1) + (bxor x4 (bshl 1 x6))).toNat)) then
            (m_sumOf_109 x1 x2 x3 x4 k1 n x5 (x6 + 1) q132.2)
          else
            (m_sumOf_109 x1 x2 x3 x4 k1 n ((x3 - (q132.2 30 ((7 * x6) + 5).toNat)) + (q132.2 38 (((x3 + 1) * x1) + (bxor x4 (bshl 1 x6))).toNat)) (x6 + 1) q132.2))
          else none)
          else none)))))
theorem m_sumOf_109_ok {lc : Launch} {κ : KX} {D : CX} {ad : Nat → Nat} {x1 x2 x3 x4 : Int} {k1 : Int → Wd → Option (Int × Wd)} {v : Int × Wd} (X : gX κ D cX4_sumOf RX4 rmX4_sumOf lc 8) (Z : gQ κ D LAY ad (some .int) (some (iv v.1)) v.2 0 0) (hk1 : ∀ (x5 : Int) (w : Wd), k1 x5 w = some v → G κ D LAY ad 0 0 w 198 [(0, .ref (ad 26)), (1, iv x1), (2, iv x2), (3, iv x3), (4, iv x4), (5, iv x5)] []) : ∀ (n : Nat) (x5 : Int) (x6 : Int) (w : Wd), m_sumOf_109 x1 x2 x3 x4 k1 n x5 x6 w = some v → G κ D LAY ad 0 0 w 109 [(0, .ref (ad 26)), (1, iv x1), (2, iv x2), (3, iv x3), (4, iv x4), (5, iv x5), (6, iv x6)] [] := by
  intro n
  induction n with
  | zero =>
    intro x5 x6 w h
    cases h
  | succ n ih =>
    intro x5 x6 w h
    rw [m_sumOf_109] at h
    refine g_iload X 6 dX4_sumOf_109 rfl ?_
    refine g_aload_n X 0 dX4_sumOf_111 rfl rfl ?_
    refine gf_X4_54 X dX4_sumOf_112 ?_
    refine g_icmp_ge X h dX4_sumOf_115 (tgt := 198) (by decide) (fun h => ?_) (fun h => ?_)
    · refine g_sub [0, 1, 2, 3, 4, 5] rfl ?_
      exact hk1 x5 w h
    · refine g_iload X 4 dX4_sumOf_118 rfl ?_
      refine g_iload X 6 dX4_sumOf_120 rfl ?_
      refine g_ishr X dX4_sumOf_122 ?_
      refine g_iconst X dX4_sumOf_123 ?_
      refine g_iand X dX4_sumOf_124 ?_
      refine g_if_eq X h dX4_sumOf_125 (tgt := 192) (by decide) (fun h => ?_) (fun h => ?_)
      · refine g_iinc X 6 [1, 2, 3, 4, 5, 6, 0] (ls1 := [(0, .ref (ad 26)), (1, iv x1), (2, iv x2), (3, iv x3), (4, iv x4), (5, iv x5), (6, iv (x6 + 1))]) dX4_sumOf_192 rfl (by decide) rfl ?_
        refine g_goto X (tgt := 109) dX4_sumOf_195 (by decide) ?_
        exact ih x5 (x6 + 1) w h
      · refine g_aload_n X 0 dX4_sumOf_128 rfl rfl ?_
        refine g_iload X 6 dX4_sumOf_129 rfl ?_
        refine g_iload_n X 3 dX4_sumOf_131 rfl rfl ?_
        obtain ⟨q132, e132, h⟩ := bindE h
        refine g_callVi X (st := []) 26 [iv x6, iv x3] (mc_m_mayCome e132) cal_X4_mayCome rfl rfl wm_X4_130 (by decide) rfl rfl ⟨by decide, by decide⟩ rfl (Nat.le_of_ble_eq_true rfl) dX4_sumOf_132 ?_
        refine g_if_ne X h dX4_sumOf_135 (tgt := 141) (by decide) (fun h => ?_) (fun h => ?_)
        · refine g_iload_n X 3 dX4_sumOf_141 rfl rfl ?_
          refine g_aload_n X 0 dX4_sumOf_142 rfl rfl ?_
          refine gf_X4_19 X dX4_sumOf_143 ?_
          refine g_bipush X 7 dX4_sumOf_146 (by decide) ?_
          refine g_iload X 6 dX4_sumOf_148 rfl ?_
          refine g_imul X dX4_sumOf_150 ?_
          refine g_iconst X dX4_sumOf_151 ?_
          refine g_iadd X dX4_sumOf_152 ?_
          refine g_iald X (n := 49) (c := 30) h rfl (by decide) dX4_sumOf_153 (fun h => ?_)
          refine g_isub X dX4_sumOf_154 ?_
          refine g_aload_n X 0 dX4_sumOf_155 rfl rfl ?_
          refine gf_X4_44 X dX4_sumOf_156 ?_
          refine g_iload_n X 3 dX4_sumOf_159 rfl rfl ?_
          refine g_iconst X dX4_sumOf_160 ?_
          refine g_iadd X dX4_sumOf_161 ?_
          refine g_iload_n X 1 dX4_sumOf_162 rfl rfl ?_
          refine g_imul X dX4_sumOf_163 ?_
          refine g_iload X 4 dX4_sumOf_164 rfl ?_
          refine g_iconst X dX4_sumOf_166 ?_
          refine g_iload X 6 dX4_sumOf_167 rfl ?_
          refine g_ishl X dX4_sumOf_169 ?_
          refine g_ixor X dX4_sumOf_170 ?_
          refine g_iadd X dX4_sumOf_171 ?_
          refine g_iald X (n := 15488) (c := 38) h rfl (by decide) dX4_sumOf_172 (fun h => ?_)
          refine g_iadd X dX4_sumOf_173 ?_
          refine g_istore X [1, 2, 3, 4, 5, 6, 7, 0] (ls1 := [(0, .ref (ad 26)), (1, iv x1), (2, iv x2), (3, iv x3), (4, iv x4), (5, iv x5), (6, iv x6), (7, iv ((x3 - (q132.2 30 ((7 * x6) + 5).toNat)) + (q132.2 38 (((x3 + 1) * x1) + (bxor x4 (bshl 1 x6))).toNat)))]) dX4_sumOf_174 (by decide) rfl ?_
          refine g_iload X 7 dX4_sumOf_176 rfl ?_
          refine g_iload X 5 dX4_sumOf_178 rfl ?_
          refine g_icmp_ge X h dX4_sumOf_180 (tgt := 188) (by decide) (fun h => ?_) (fun h => ?_)
          · refine g_iload X 5 dX4_sumOf_188 rfl ?_
            refine g_istore X [1, 2, 3, 4, 5, 0, 6, 7] (ls1 := [(0, .ref (ad 26)), (1, iv x1), (2, iv x2), (3, iv x3), (4, iv x4), (5, iv x5), (6, iv x6), (7, iv ((x3 - (q132.2 30 ((7 * x6) + 5).toNat)) + (q132.2 38 (((x3 + 1) * x1) + (bxor x4 (bshl 1 x6))).toNat)))]) dX4_sumOf_190 (by decide) rfl ?_
            refine g_iinc X 6 [1, 2, 3, 4, 5, 6, 0, 7] (ls1 := [(0, .ref (ad 26)), (1, iv x1), (2, iv x2), (3, iv x3), (4, iv x4), (5, iv x5), (6, iv (x6 + 1)), (7, iv ((x3 - (q132.2 30 ((7 * x6) + 5).toNat)) + (q132.2 38 (((x3 + 1) * x1) + (bxor x4 (bshl 1 x6))).toNat)))]) dX4_sumOf_192 rfl (by decide) rfl ?_
            refine g_goto X (tgt := 109) dX4_sumOf_195 (by decide) ?_
            refine g_sub [0, 1, 2, 3, 4, 5, 6] rfl ?_
            exact ih x5 (x6 + 1) q132.2 h
          · refine g_iload X 7 dX4_sumOf_183 rfl ?_
            refine g_goto X (tgt := 190) dX4_sumOf_185 (by decide) ?_
            refine g_istore X [1, 2, 3, 4, 5, 0, 6, 7] (ls1 := [(0, .ref (ad 26)), (1, iv x1), (2, iv x2), (3, iv x3), (4, iv x4), (5, iv ((x3 - (q132.2 30 ((7 * x6) + 5).toNat)) + (q132.2 38 (((x3 + 1) * x1) + (bxor x4 (bshl 1 x6))).toNat))), (6, iv x6), (7, iv ((x3 - (q132.2 30 ((7 * x6) + 5).toNat)) + (q132.2 38 (((x3 + 1) * x1) + (bxor x4 (bshl 1 x6))).toNat)))]) dX4_sumOf_190 (by decide) rfl ?_
            refine g_iinc X 6 [1, 2, 3, 4, 5, 6, 0, 7] (ls1 := [(0, .ref (ad 26)), (1, iv x1), (2, iv x2), (3, iv x3), (4, iv x4), (5, iv ((x3 - (q132.2 30 ((7 * x6) + 5).toNat)) + (q132.2 38 (((x3 + 1) * x1) + (bxor x4 (bshl 1 x6))).toNat))), (6, iv (x6 + 1)), (7, iv ((x3 - (q132.2 30 ((7 * x6) + 5).toNat)) + (q132.2 38 (((x3 + 1) * x1) + (bxor x4 (bshl 1 x6))).toNat)))]) dX4_sumOf_192 rfl (by decide) rfl ?_
            refine g_goto X (tgt := 109) dX4_sumOf_195 (by decide) ?_
            refine g_sub [0, 1, 2, 3, 4, 5, 6] rfl ?_
            exact ih ((x3 - (q132.2 30 ((7 * x6) + 5).toNat)) + (q132.2 38 (((x3 + 1) * x1) + (bxor x4 (bshl 1 x6))).toNat)) (x6 + 1) q132.2 h
        · refine g_goto X (tgt := 192) dX4_sumOf_138 (by decide) ?_
          refine g_iinc X 6 [1, 2, 3, 4, 5, 6, 0] (ls1 := [(0, .ref (ad 26)), (1, iv x1), (2, iv x2), (3, iv x3), (4, iv x4), (5, iv x5), (6, iv (x6 + 1))]) dX4_sumOf_192 rfl (by decide) rfl ?_
          refine g_goto X (tgt := 109) dX4_sumOf_195 (by decide) ?_
          exact ih x5 (x6 + 1) q132.2 h
noncomputable def m_sumOf_85 (x1 x2 x3 : Int) (k1 : Wd → Option (Int × Wd)) : Nat → Int → Wd → Option (Int × Wd)
  | 0, _, _ => none
  | n + 1, x4, w =>
    (if wr x1 ≤ wr x4 then
      (k1 w)
    else
      (if 0 ≤ (((x3 + 1) * x1) + x4) ∧ (((x3 + 1) * x1) + x4) < 15488 then
      (m_sumOf_109 x1 x2 x3 x4 (fun (e198_5 : Int) (w198 : Wd) =>
        (if 0 ≤ ((x3 * x1) + x4) ∧ ((x3 * x1) + x4) < 15488 then
        (m_sumOf_85 x1 x2 x3 k1 n (x4 + 1) (wset w198 38 ((x3 * x1) + x4).toNat e198_5))
        else none)) FU (w 38 (((x3 + 1) * x1) + x4).toNat) 0 w)
      else none))
theorem m_sumOf_85_ok {lc : Launch} {κ : KX} {D : CX} {ad : Nat → Nat} {x1 x2 x3 : Int} {k1 : Wd → Option (Int × Wd)} {v : Int × Wd} (X : gX κ D cX4_sumOf RX4 rmX4_sumOf lc 8) (Z : gQ κ D LAY ad (some .int) (some (iv v.1)) v.2 0 0) (hk1 : ∀ (w : Wd), k1 w = some v → G κ D LAY ad 0 0 w 217 [(0, .ref (ad 26)), (1, iv x1), (2, iv x2), (3, iv x3)] []) : ∀ (n : Nat) (x4 : Int) (w : Wd), m_sumOf_85 x1 x2 x3 k1 n x4 w = some v → G κ D LAY ad 0 0 w 85 [(0, .ref (ad 26)), (1, iv x1), (2, iv x2), (3, iv x3), (4, iv x4)] [] := by
  intro n
  induction n with
  | zero =>
    intro x4 w h
    cases h
  | succ n ih =>
    intro x4 w h
    rw [m_sumOf_85] at h
    refine g_iload X 4 dX4_sumOf_85 rfl ?_
    refine g_iload_n X 1 dX4_sumOf_87 rfl rfl ?_
    refine g_icmp_ge X h dX4_sumOf_88 (tgt := 217) (by decide) (fun h => ?_) (fun h => ?_)
    · refine g_sub [0, 1, 2, 3] rfl ?_
      exact hk1 w h
    · refine g_aload_n X 0 dX4_sumOf_91 rfl rfl ?_
      refine gf_X4_44 X dX4_sumOf_92 ?_
      refine g_iload_n X 3 dX4_sumOf_95 rfl rfl ?_
      refine g_iconst X dX4_sumOf_96 ?_
      refine g_iadd X dX4_sumOf_97 ?_
      refine g_iload_n X 1 dX4_sumOf_98 rfl rfl ?_
      refine g_imul X dX4_sumOf_99 ?_
      refine g_iload X 4 dX4_sumOf_100 rfl ?_
      refine g_iadd X dX4_sumOf_102 ?_
      refine g_iald X (n := 15488) (c := 38) h rfl (by decide) dX4_sumOf_103 (fun h => ?_)
      refine g_istore X [1, 2, 3, 4, 5, 0] (ls1 := [(0, .ref (ad 26)), (1, iv x1), (2, iv x2), (3, iv x3), (4, iv x4), (5, iv (w 38 (((x3 + 1) * x1) + x4).toNat))]) dX4_sumOf_104 (by decide) rfl ?_
      refine g_iconst X dX4_sumOf_106 ?_
      refine g_istore X [1, 2, 3, 4, 5, 6, 0] (ls1 := [(0, .ref (ad 26)), (1, iv x1), (2, iv x2), (3, iv x3), (4, iv x4), (5, iv (w 38 (((x3 + 1) * x1) + x4).toNat)), (6, iv 0)]) dX4_sumOf_107 (by decide) rfl ?_
      refine m_sumOf_109_ok X Z ?_ FU (w 38 (((x3 + 1) * x1) + x4).toNat) 0 w h
      · intro e198_5 w198 h
        refine g_aload_n X 0 dX4_sumOf_198 rfl rfl ?_
        refine gf_X4_44 X dX4_sumOf_199 ?_
        refine g_iload_n X 3 dX4_sumOf_202 rfl rfl ?_
        refine g_iload_n X 1 dX4_sumOf_203 rfl rfl ?_
        refine g_imul X dX4_sumOf_204 ?_
        refine g_iload X 4 dX4_sumOf_205 rfl ?_
        refine g_iadd X dX4_sumOf_207 ?_
        refine g_iload X 5 dX4_sumOf_208 rfl ?_
        refine g_iast X (n := 15488) (c := 38) h rfl (by decide) dX4_sumOf_210 (fun h => ?_)
        refine g_iinc X 4 [1, 2, 3, 4, 0, 5] (ls1 := [(0, .ref (ad 26)), (1, iv x1), (2, iv x2), (3, iv x3), (4, iv (x4 + 1)), (5, iv e198_5)]) dX4_sumOf_211 rfl (by decide) rfl ?_
        refine g_goto X (tgt := 85) dX4_sumOf_214 (by decide) ?_
        refine g_sub [0, 1, 2, 3, 4] rfl ?_
        exact ih (x4 + 1) (wset w198 38 ((x3 * x1) + x4).toNat e198_5) h
noncomputable def m_sumOf_78 (x1 x2 : Int) : Nat → Int → Wd → Option (Int × Wd)
  | 0, _, _ => none
  | n + 1, x3, w =>
    (if wr x3 < 0 then
      (if 0 ≤ x2 ∧ x2 < 15488 then
      some ((w 38 x2.toNat), w)
      else none)
    else
      (m_sumOf_85 x1 x2 x3 (fun (w217 : Wd) =>
        (m_sumOf_78 x1 x2 n (x3 + (-1)) w217)) FU 0 w))
theorem m_sumOf_78_ok {lc : Launch} {κ : KX} {D : CX} {ad : Nat → Nat} {x1 x2 : Int} {v : Int × Wd} (X : gX κ D cX4_sumOf RX4 rmX4_sumOf lc 8) (Z : gQ κ D LAY ad (some .int) (some (iv v.1)) v.2 0 0) : ∀ (n : Nat) (x3 : Int) (w : Wd), m_sumOf_78 x1 x2 n x3 w = some v → G κ D LAY ad 0 0 w 78 [(0, .ref (ad 26)), (1, iv x1), (2, iv x2), (3, iv x3)] [] := by
  intro n
  induction n with
  | zero =>
    intro x3 w h
    cases h
  | succ n ih =>
    intro x3 w h
    rw [m_sumOf_78] at h
    refine g_iload_n X 3 dX4_sumOf_78 rfl rfl ?_
    refine g_if_lt X h dX4_sumOf_79 (tgt := 223) (by decide) (fun h => ?_) (fun h => ?_)
    · refine g_aload_n X 0 dX4_sumOf_223 rfl rfl ?_
      refine gf_X4_44 X dX4_sumOf_224 ?_
      refine g_iload_n X 2 dX4_sumOf_227 rfl rfl ?_
      refine g_iald X (n := 15488) (c := 38) h rfl (by decide) dX4_sumOf_228 (fun h => ?_)
      exact g_iret X Z h dX4_sumOf_229
    · refine g_iconst X dX4_sumOf_82 ?_
      refine g_istore X [1, 2, 3, 4, 0] (ls1 := [(0, .ref (ad 26)), (1, iv x1), (2, iv x2), (3, iv x3), (4, iv 0)]) dX4_sumOf_83 (by decide) rfl ?_
      refine m_sumOf_85_ok X Z ?_ FU 0 w h
      · intro w217 h
        refine g_iinc X 3 [1, 2, 3, 0] (ls1 := [(0, .ref (ad 26)), (1, iv x1), (2, iv x2), (3, iv (x3 + (-1)))]) dX4_sumOf_217 rfl (by decide) rfl ?_
        refine g_goto X (tgt := 78) dX4_sumOf_220 (by decide) ?_
        exact ih (x3 + (-1)) w217 h
noncomputable def m_sumOf (w : Wd) : Option (Int × Wd) :=
  (m_sumOf_11 (bshl 1 (w 26 4)) (fun (e41_2 : Int) (w41 : Wd) =>
    (m_sumOf_43 (bshl 1 (w 26 4)) e41_2 (fun (w75 : Wd) =>
      (m_sumOf_78 (bshl 1 (w 26 4)) e41_2 FU 119 w75)) FU 0 w41)) FU 0 0 w)
theorem mc_m_sumOf {lc : Launch} {D : CX} {ad : Nat → Nat} {w : Wd} {v : Int × Wd} (h : m_sumOf w = some v) : Mc lc yX4_sumOf cX4_sumOf 8 (some .int) rmX4_sumOf D LAY ad [.ref (ad 26)] w (some (iv v.1)) v.2 0 0 := by
  refine mc_of (by decide) (Nat.le_of_ble_eq_true rfl) ?_
  intro κ X Z
  show G κ D LAY ad 0 0 w 0 [(0, .ref (ad 26))] []
  unfold m_sumOf at h
  refine g_iconst X dX4_sumOf_0 ?_
  refine g_aload_n X 0 dX4_sumOf_1 rfl rfl ?_
  refine gf_X4_54 X dX4_sumOf_2 ?_
  refine g_ishl X dX4_sumOf_5 ?_
  refine g_istore_n X [1, 0] (ls1 := [(0, .ref (ad 26)), (1, iv (bshl 1 (w 26 4)))]) dX4_sumOf_6 rfl (by decide) rfl ?_
  refine g_iconst X dX4_sumOf_7 ?_
  refine g_istore_n X [1, 2, 0] (ls1 := [(0, .ref (ad 26)), (1, iv (bshl 1 (w 26 4))), (2, iv 0)]) dX4_sumOf_8 rfl (by decide) rfl ?_
  refine g_iconst X dX4_sumOf_9 ?_
  refine g_istore_n X [1, 2, 3, 0] (ls1 := [(0, .ref (ad 26)), (1, iv (bshl 1 (w 26 4))), (2, iv 0), (3, iv 0)]) dX4_sumOf_10 rfl (by decide) rfl ?_
  refine m_sumOf_11_ok X Z ?_ FU 0 0 w h
  · intro e41_2 w41 h
    refine g_iconst X dX4_sumOf_41 ?_
    refine g_istore_n X [1, 2, 3, 0] (ls1 := [(0, .ref (ad 26)), (1, iv (bshl 1 (w 26 4))), (2, iv e41_2), (3, iv 0)]) dX4_sumOf_42 rfl (by decide) rfl ?_
    refine m_sumOf_43_ok X Z ?_ FU 0 w41 h
    · intro w75 h
      refine g_bipush X 119 dX4_sumOf_75 (by decide) ?_
      refine g_istore_n X [1, 2, 3, 0] (ls1 := [(0, .ref (ad 26)), (1, iv (bshl 1 (w 26 4))), (2, iv e41_2), (3, iv 119)]) dX4_sumOf_77 rfl (by decide) rfl ?_
      refine m_sumOf_78_ok X Z FU 119 w75 h

/-! TallShipsModel.plan -/
noncomputable def m_plan_7 (k1 : Wd → Option (Int × Wd)) : Nat → Int → Wd → Option (Int × Wd)
  | 0, _, _ => none
  | n + 1, x1, w =>
    (if wr 7 ≤ wr x1 then
      (k1 w)
    else
      (if 0 ≤ x1 ∧ x1 < 7 then
      (m_plan_7 k1 n (x1 + 1) (wset w 39 x1.toNat (-1)))
      else none))
theorem m_plan_7_ok {lc : Launch} {κ : KX} {D : CX} {ad : Nat → Nat} {k1 : Wd → Option (Int × Wd)} {v : Int × Wd} (X : gX κ D cX4_plan RX4 rmX4_plan lc 5) (Z : gQ κ D LAY ad (some .int) (some (iv v.1)) v.2 0 0) (hk1 : ∀ (w : Wd), k1 w = some v → G κ D LAY ad 0 0 w 26 [(0, .ref (ad 26))] []) : ∀ (n : Nat) (x1 : Int) (w : Wd), m_plan_7 k1 n x1 w = some v → G κ D LAY ad 0 0 w 7 [(0, .ref (ad 26)), (1, iv x1)] [] := by
  intro n
  induction n with
  | zero =>
    intro x1 w h
    cases h
  | succ n ih =>
    intro x1 w h
    rw [m_plan_7] at h
    refine g_iload_n X 1 dX4_plan_7 rfl rfl ?_
    refine g_bipush X 7 dX4_plan_8 (by decide) ?_
    refine g_icmp_ge X h dX4_plan_10 (tgt := 26) (by decide) (fun h => ?_) (fun h => ?_)
    · refine g_sub [0] rfl ?_
      exact hk1 w h
    · refine g_aload_n X 0 dX4_plan_13 rfl rfl ?_
      refine gf_X4_47 X dX4_plan_14 ?_
      refine g_iload_n X 1 dX4_plan_17 rfl rfl ?_
      refine g_iconst X dX4_plan_18 ?_
      refine g_iast X (n := 7) (c := 39) h rfl (by decide) dX4_plan_19 (fun h => ?_)
      refine g_iinc X 1 [1, 0] (ls1 := [(0, .ref (ad 26)), (1, iv (x1 + 1))]) dX4_plan_20 rfl (by decide) rfl ?_
      refine g_goto X (tgt := 7) dX4_plan_23 (by decide) ?_
      exact ih (x1 + 1) (wset w 39 x1.toNat (-1)) h
noncomputable def m_plan_77 (x1 x2 : Int) (k1 : Wd → Option (Int × Wd)) : Nat → Int → Int → Wd → Option (Int × Wd)
  | 0, _, _, _ => none
  | n + 1, x3, x4, w =>
    (if wr x4 = 0 then
      (if 0 ≤ x2 ∧ x2 < 7 then
      ((m_mayCome x2 x3 (wset w 39 x2.toNat (-1))).bind fun q92 =>
      (if wr q92.1 = 0 then
        (m_plan_77 x1 x2 k1 n (x3 + 1) x4 q92.2)
      else
        (if 0 ≤ x2 ∧ x2 < 7 then
        ((m_sumOf (wset q92.2 39 x2.toNat x3)).bind fun q106 =>
        (if wr q106.1 = wr x1 then
          (m_plan_77 x1 x2 k1 n (x3 + 1) 1 q106.2)
        else
          (m_plan_77 x1 x2 k1 n (x3 + 1) 0 q106.2)))
        else none)))
      else none)
    else
      (k1 w))
theorem m_plan_77_ok {lc : Launch} {κ : KX} {D : CX} {ad : Nat → Nat} {x1 x2 : Int} {k1 : Wd → Option (Int × Wd)} {v : Int × Wd} (X : gX κ D cX4_plan RX4 rmX4_plan lc 5) (Z : gQ κ D LAY ad (some .int) (some (iv v.1)) v.2 0 0) (hk1 : ∀ (w : Wd), k1 w = some v → G κ D LAY ad 0 0 w 126 [(0, .ref (ad 26)), (1, iv x1), (2, iv x2)] []) : ∀ (n : Nat) (x3 : Int) (x4 : Int) (w : Wd), m_plan_77 x1 x2 k1 n x3 x4 w = some v → G κ D LAY ad 0 0 w 77 [(0, .ref (ad 26)), (1, iv x1), (2, iv x2), (3, iv x3), (4, iv x4)] [] := by
  intro n
  induction n with
  | zero =>
    intro x3 x4 w h
    cases h
  | succ n ih =>
    intro x3 x4 w h
    rw [m_plan_77] at h
    refine g_iload X 4 dX4_plan_77 rfl ?_
    refine g_if_ne X h dX4_plan_79 (tgt := 126) (by decide) (fun h => ?_) (fun h => ?_)
    · refine g_sub [0, 1, 2] rfl ?_
      exact hk1 w h
    · refine g_aload_n X 0 dX4_plan_82 rfl rfl ?_
      refine gf_X4_47 X dX4_plan_83 ?_
      refine g_iload_n X 2 dX4_plan_86 rfl rfl ?_
      refine g_iconst X dX4_plan_87 ?_
      refine g_iast X (n := 7) (c := 39) h rfl (by decide) dX4_plan_88 (fun h => ?_)
      refine g_aload_n X 0 dX4_plan_89 rfl rfl ?_
      refine g_iload_n X 2 dX4_plan_90 rfl rfl ?_
      refine g_iload_n X 3 dX4_plan_91 rfl rfl ?_
      obtain ⟨q92, e92, h⟩ := bindE h
      refine g_callVi X (st := []) 26 [iv x2, iv x3] (mc_m_mayCome e92) cal_X4_mayCome rfl rfl wm_X4_130 (by decide) rfl rfl ⟨by decide, by decide⟩ rfl (Nat.le_of_ble_eq_true rfl) dX4_plan_92 ?_
      refine g_if_eq X h dX4_plan_95 (tgt := 120) (by decide) (fun h => ?_) (fun h => ?_)
      · refine g_iinc X 3 [1, 2, 3, 0, 4] (ls1 := [(0, .ref (ad 26)), (1, iv x1), (2, iv x2), (3, iv (x3 + 1)), (4, iv x4)]) dX4_plan_120 rfl (by decide) rfl ?_
        refine g_goto X (tgt := 77) dX4_plan_123 (by decide) ?_
        exact ih (x3 + 1) x4 q92.2 h
      · refine g_aload_n X 0 dX4_plan_98 rfl rfl ?_
        refine gf_X4_47 X dX4_plan_99 ?_
        refine g_iload_n X 2 dX4_plan_102 rfl rfl ?_
        refine g_iload_n X 3 dX4_plan_103 rfl rfl ?_
        refine g_iast X (n := 7) (c := 39) h rfl (by decide) dX4_plan_104 (fun h => ?_)
        refine g_aload_n X 0 dX4_plan_105 rfl rfl ?_
        obtain ⟨q106, e106, h⟩ := bindE h
        refine g_callVi X (st := []) 26 [] (mc_m_sumOf e106) cal_X4_sumOf rfl rfl wm_X4_134 (by decide) rfl rfl ⟨by decide, by decide⟩ rfl (Nat.le_of_ble_eq_true rfl) dX4_plan_106 ?_
        refine g_iload_n X 1 dX4_plan_109 rfl rfl ?_
        refine g_icmp_ne X h dX4_plan_110 (tgt := 117) (by decide) (fun h => ?_) (fun h => ?_)
        · refine g_iconst X dX4_plan_117 ?_
          refine g_istore X [1, 2, 3, 4, 0] (ls1 := [(0, .ref (ad 26)), (1, iv x1), (2, iv x2), (3, iv x3), (4, iv 0)]) dX4_plan_118 (by decide) rfl ?_
          refine g_iinc X 3 [1, 2, 3, 0, 4] (ls1 := [(0, .ref (ad 26)), (1, iv x1), (2, iv x2), (3, iv (x3 + 1)), (4, iv 0)]) dX4_plan_120 rfl (by decide) rfl ?_
          refine g_goto X (tgt := 77) dX4_plan_123 (by decide) ?_
          exact ih (x3 + 1) 0 q106.2 h
        · refine g_iconst X dX4_plan_113 ?_
          refine g_goto X (tgt := 118) dX4_plan_114 (by decide) ?_
          refine g_istore X [1, 2, 3, 4, 0] (ls1 := [(0, .ref (ad 26)), (1, iv x1), (2, iv x2), (3, iv x3), (4, iv 1)]) dX4_plan_118 (by decide) rfl ?_
          refine g_iinc X 3 [1, 2, 3, 0, 4] (ls1 := [(0, .ref (ad 26)), (1, iv x1), (2, iv x2), (3, iv (x3 + 1)), (4, iv 1)]) dX4_plan_120 rfl (by decide) rfl ?_
          refine g_goto X (tgt := 77) dX4_plan_123 (by decide) ?_
          exact ih (x3 + 1) 1 q106.2 h
noncomputable def m_plan_41 (x1 : Int) (k1 : Wd → Option (Int × Wd)) : Nat → Int → Wd → Option (Int × Wd)
  | 0, _, _ => none
  | n + 1, x2, w =>
    (if wr (w 26 4) ≤ wr x2 then
      (k1 w)
    else
      (if 0 ≤ x2 ∧ x2 < 7 then
      (if wr (w 33 x2.toNat) = wr (-1) then
        (m_plan_41 x1 k1 n (x2 + 1) w)
      else
        (if 0 ≤ ((7 * x2) + 5) ∧ ((7 * x2) + 5) < 49 then
        (m_plan_77 x1 x2 (fun (w126 : Wd) =>
          (m_plan_41 x1 k1 n (x2 + 1) w126)) FU (w 30 ((7 * x2) + 5).toNat) 0 w)
        else none))
      else none))
theorem m_plan_41_ok {lc : Launch} {κ : KX} {D : CX} {ad : Nat → Nat} {x1 : Int} {k1 : Wd → Option (Int × Wd)} {v : Int × Wd} (X : gX κ D cX4_plan RX4 rmX4_plan lc 5) (Z : gQ κ D LAY ad (some .int) (some (iv v.1)) v.2 0 0) (hk1 : ∀ (w : Wd), k1 w = some v → G κ D LAY ad 0 0 w 132 [(0, .ref (ad 26)), (1, iv x1)] []) : ∀ (n : Nat) (x2 : Int) (w : Wd), m_plan_41 x1 k1 n x2 w = some v → G κ D LAY ad 0 0 w 41 [(0, .ref (ad 26)), (1, iv x1), (2, iv x2)] [] := by
  intro n
  induction n with
  | zero =>
    intro x2 w h
    cases h
  | succ n ih =>
    intro x2 w h
    rw [m_plan_41] at h
    refine g_iload_n X 2 dX4_plan_41 rfl rfl ?_
    refine g_aload_n X 0 dX4_plan_42 rfl rfl ?_
    refine gf_X4_54 X dX4_plan_43 ?_
    refine g_icmp_ge X h dX4_plan_46 (tgt := 132) (by decide) (fun h => ?_) (fun h => ?_)
    · refine g_sub [0, 1] rfl ?_
      exact hk1 w h
    · refine g_aload_n X 0 dX4_plan_49 rfl rfl ?_
      refine gf_X4_29 X dX4_plan_50 ?_
      refine g_iload_n X 2 dX4_plan_53 rfl rfl ?_
      refine g_iald X (n := 7) (c := 33) h rfl (by decide) dX4_plan_54 (fun h => ?_)
      refine g_iconst X dX4_plan_55 ?_
      refine g_icmp_ne X h dX4_plan_56 (tgt := 62) (by decide) (fun h => ?_) (fun h => ?_)
      · refine g_aload_n X 0 dX4_plan_62 rfl rfl ?_
        refine gf_X4_19 X dX4_plan_63 ?_
        refine g_bipush X 7 dX4_plan_66 (by decide) ?_
        refine g_iload_n X 2 dX4_plan_68 rfl rfl ?_
        refine g_imul X dX4_plan_69 ?_
        refine g_iconst X dX4_plan_70 ?_
        refine g_iadd X dX4_plan_71 ?_
        refine g_iald X (n := 49) (c := 30) h rfl (by decide) dX4_plan_72 (fun h => ?_)
        refine g_istore_n X [1, 2, 3, 0] (ls1 := [(0, .ref (ad 26)), (1, iv x1), (2, iv x2), (3, iv (w 30 ((7 * x2) + 5).toNat))]) dX4_plan_73 rfl (by decide) rfl ?_
        refine g_iconst X dX4_plan_74 ?_
        refine g_istore X [1, 2, 3, 4, 0] (ls1 := [(0, .ref (ad 26)), (1, iv x1), (2, iv x2), (3, iv (w 30 ((7 * x2) + 5).toNat)), (4, iv 0)]) dX4_plan_75 (by decide) rfl ?_
        refine m_plan_77_ok X Z ?_ FU (w 30 ((7 * x2) + 5).toNat) 0 w h
        · intro w126 h
          refine g_iinc X 2 [1, 2, 0] (ls1 := [(0, .ref (ad 26)), (1, iv x1), (2, iv (x2 + 1))]) dX4_plan_126 rfl (by decide) rfl ?_
          refine g_goto X (tgt := 41) dX4_plan_129 (by decide) ?_
          exact ih (x2 + 1) w126 h
      · refine g_goto X (tgt := 126) dX4_plan_59 (by decide) ?_
        refine g_iinc X 2 [1, 2, 0] (ls1 := [(0, .ref (ad 26)), (1, iv x1), (2, iv (x2 + 1))]) dX4_plan_126 rfl (by decide) rfl ?_
        refine g_goto X (tgt := 41) dX4_plan_129 (by decide) ?_
        exact ih (x2 + 1) w h
noncomputable def m_plan_134 (x1 : Int) : Nat → Int → Wd → Option (Int × Wd)
  | 0, _, _ => none
  | n + 1, x2, w =>
    (if wr 7 ≤ wr x2 then
      some (x1, w)
    else
      (if 0 ≤ x2 ∧ x2 < 7 then
      (if 0 ≤ x2 ∧ x2 < 7 then
      (m_plan_134 x1 n (x2 + 1) (wset w 34 x2.toNat (w 39 x2.toNat)))
      else none)
      else none))
theorem m_plan_134_ok {lc : Launch} {κ : KX} {D : CX} {ad : Nat → Nat} {x1 : Int} {v : Int × Wd} (X : gX κ D cX4_plan RX4 rmX4_plan lc 5) (Z : gQ κ D LAY ad (some .int) (some (iv v.1)) v.2 0 0) : ∀ (n : Nat) (x2 : Int) (w : Wd), m_plan_134 x1 n x2 w = some v → G κ D LAY ad 0 0 w 134 [(0, .ref (ad 26)), (1, iv x1), (2, iv x2)] [] := by
  intro n
  induction n with
  | zero =>
    intro x2 w h
    cases h
  | succ n ih =>
    intro x2 w h
    rw [m_plan_134] at h
    refine g_iload_n X 2 dX4_plan_134 rfl rfl ?_
    refine g_bipush X 7 dX4_plan_135 (by decide) ?_
    refine g_icmp_ge X h dX4_plan_137 (tgt := 158) (by decide) (fun h => ?_) (fun h => ?_)
    · refine g_iload_n X 1 dX4_plan_158 rfl rfl ?_
      exact g_iret X Z h dX4_plan_159
    · refine g_aload_n X 0 dX4_plan_140 rfl rfl ?_
      refine gf_X4_32 X dX4_plan_141 ?_
      refine g_iload_n X 2 dX4_plan_144 rfl rfl ?_
      refine g_aload_n X 0 dX4_plan_145 rfl rfl ?_
      refine gf_X4_47 X dX4_plan_146 ?_
      refine g_iload_n X 2 dX4_plan_149 rfl rfl ?_
      refine g_iald X (n := 7) (c := 39) h rfl (by decide) dX4_plan_150 (fun h => ?_)
      refine g_iast X (n := 7) (c := 34) h rfl (by decide) dX4_plan_151 (fun h => ?_)
      refine g_iinc X 2 [1, 2, 0] (ls1 := [(0, .ref (ad 26)), (1, iv x1), (2, iv (x2 + 1))]) dX4_plan_152 rfl (by decide) rfl ?_
      refine g_goto X (tgt := 134) dX4_plan_155 (by decide) ?_
      exact ih (x2 + 1) (wset w 34 x2.toNat (w 39 x2.toNat)) h
noncomputable def m_plan (w : Wd) : Option (Int × Wd) :=
  (m_plan_7 (fun (w26 : Wd) =>
    ((m_sumOf w26).bind fun q27 =>
    (if wr q27.1 < wr 268435456 then
      (m_plan_41 q27.1 (fun (w132 : Wd) =>
        (m_plan_134 q27.1 FU 0 w132)) FU 0 q27.2)
    else
      some ((-1), q27.2)))) FU 0 (wset w 26 10 0))
theorem mc_m_plan {lc : Launch} {D : CX} {ad : Nat → Nat} {w : Wd} {v : Int × Wd} (h : m_plan w = some v) : Mc lc yX4_plan cX4_plan 5 (some .int) rmX4_plan D LAY ad [.ref (ad 26)] w (some (iv v.1)) v.2 0 0 := by
  refine mc_of (by decide) (Nat.le_of_ble_eq_true rfl) ?_
  intro κ X Z
  show G κ D LAY ad 0 0 w 0 [(0, .ref (ad 26))] []
  unfold m_plan at h
  refine g_aload_n X 0 dX4_plan_0 rfl rfl ?_
  refine g_iconst X dX4_plan_1 ?_
  refine gp_X4_50 X dX4_plan_2 ?_
  refine g_iconst X dX4_plan_5 ?_
  refine g_istore_n X [1, 0] (ls1 := [(0, .ref (ad 26)), (1, iv 0)]) dX4_plan_6 rfl (by decide) rfl ?_
  refine m_plan_7_ok X Z ?_ FU 0 (wset w 26 10 0) h
  · intro w26 h
    refine g_aload_n X 0 dX4_plan_26 rfl rfl ?_
    obtain ⟨q27, e27, h⟩ := bindE h
    refine g_callVi X (st := []) 26 [] (mc_m_sumOf e27) cal_X4_sumOf rfl rfl wm_X4_134 (by decide) rfl rfl ⟨by decide, by decide⟩ rfl (Nat.le_of_ble_eq_true rfl) dX4_plan_27 ?_
    refine g_istore_n X [1, 0] (ls1 := [(0, .ref (ad 26)), (1, iv q27.1)]) dX4_plan_30 rfl (by decide) rfl ?_
    refine g_iload_n X 1 dX4_plan_31 rfl rfl ?_
    refine g_ldc X 268435456 dX4_plan_32 wk_X4_129 ?_
    refine g_icmp_lt X h dX4_plan_34 (tgt := 39) (by decide) (fun h => ?_) (fun h => ?_)
    · refine g_iconst X dX4_plan_39 ?_
      refine g_istore_n X [1, 2, 0] (ls1 := [(0, .ref (ad 26)), (1, iv q27.1), (2, iv 0)]) dX4_plan_40 rfl (by decide) rfl ?_
      refine m_plan_41_ok X Z ?_ FU 0 q27.2 h
      · intro w132 h
        refine g_iconst X dX4_plan_132 ?_
        refine g_istore_n X [1, 2, 0] (ls1 := [(0, .ref (ad 26)), (1, iv q27.1), (2, iv 0)]) dX4_plan_133 rfl (by decide) rfl ?_
        refine m_plan_134_ok X Z FU 0 w132 h
    · refine g_iconst X dX4_plan_37 ?_
      exact g_iret X Z h dX4_plan_38

/-! TallShipsModel.in -/
noncomputable def m_in_ (x1 : Int) (w : Wd) : Option (Int × Wd) :=
  ((m_isShip x1 (wset w 26 10 0)).bind fun q7 =>
  (if wr q7.1 = 0 then
    some ((-1), q7.2)
  else
    (if 0 ≤ x1 ∧ x1 < 7 then
    some ((q7.2 34 x1.toNat), q7.2)
    else none)))
theorem mc_m_in_ {lc : Launch} {D : CX} {ad : Nat → Nat} {w : Wd} {x1 : Int} {v : Int × Wd} (h : m_in_ x1 w = some v) : Mc lc yX4_in_ cX4_in_ 2 (some .int) rmX4_in_ D LAY ad [.ref (ad 26), iv x1] w (some (iv v.1)) v.2 0 0 := by
  refine mc_of (by decide) (Nat.le_of_ble_eq_true rfl) ?_
  intro κ X Z
  show G κ D LAY ad 0 0 w 0 [(0, .ref (ad 26)), (1, iv x1)] []
  unfold m_in_ at h
  refine g_aload_n X 0 dX4_in__0 rfl rfl ?_
  refine g_iconst X dX4_in__1 ?_
  refine gp_X4_50 X dX4_in__2 ?_
  refine g_aload_n X 0 dX4_in__5 rfl rfl ?_
  refine g_iload_n X 1 dX4_in__6 rfl rfl ?_
  obtain ⟨q7, e7, h⟩ := bindE h
  refine g_callVi X (st := []) 26 [iv x1] (mc_m_isShip e7) cal_X4_isShip rfl rfl wm_X4_72 (by decide) rfl rfl ⟨by decide, by decide⟩ rfl (Nat.le_of_ble_eq_true rfl) dX4_in__7 ?_
  refine g_if_eq X h dX4_in__10 (tgt := 22) (by decide) (fun h => ?_) (fun h => ?_)
  · refine g_iconst X dX4_in__22 ?_
    exact g_iret X Z h dX4_in__23
  · refine g_aload_n X 0 dX4_in__13 rfl rfl ?_
    refine gf_X4_32 X dX4_in__14 ?_
    refine g_iload_n X 1 dX4_in__17 rfl rfl ?_
    refine g_iald X (n := 7) (c := 34) h rfl (by decide) dX4_in__18 (fun h => ?_)
    refine g_goto X (tgt := 23) dX4_in__19 (by decide) ?_
    exact g_iret X Z h dX4_in__23

/-! TallShipsModel.isAhead -/
noncomputable def m_isAhead (x1 x2 : Int) (w : Wd) : Option (Int × Wd) :=
  (if 0 ≤ ((7 * x1) + 3) ∧ ((7 * x1) + 3) < 49 then
  (if 0 ≤ ((7 * x2) + 3) ∧ ((7 * x2) + 3) < 49 then
  (if wr (w 30 ((7 * x2) + 3).toNat) < wr (w 30 ((7 * x1) + 3).toNat) then
    some (1, w)
  else
    (if wr (w 30 ((7 * x1) + 3).toNat) = wr (w 30 ((7 * x2) + 3).toNat) then
      (if wr x2 ≤ wr x1 then
        some (0, w)
      else
        some (1, w))
    else
      some (0, w)))
  else none)
  else none)
theorem mc_m_isAhead {lc : Launch} {D : CX} {ad : Nat → Nat} {w : Wd} {x1 x2 : Int} {v : Int × Wd} (h : m_isAhead x1 x2 w = some v) : Mc lc yX4_isAhead cX4_isAhead 5 (some .boolean) rmX4_isAhead D LAY ad [.ref (ad 26), iv x1, iv x2] w (some (iv v.1)) v.2 0 0 := by
  refine mc_of (by decide) (Nat.le_of_ble_eq_true rfl) ?_
  intro κ X Z
  show G κ D LAY ad 0 0 w 0 [(0, .ref (ad 26)), (1, iv x1), (2, iv x2)] []
  unfold m_isAhead at h
  refine g_aload_n X 0 dX4_isAhead_0 rfl rfl ?_
  refine gf_X4_19 X dX4_isAhead_1 ?_
  refine g_bipush X 7 dX4_isAhead_4 (by decide) ?_
  refine g_iload_n X 1 dX4_isAhead_6 rfl rfl ?_
  refine g_imul X dX4_isAhead_7 ?_
  refine g_iconst X dX4_isAhead_8 ?_
  refine g_iadd X dX4_isAhead_9 ?_
  refine g_iald X (n := 49) (c := 30) h rfl (by decide) dX4_isAhead_10 (fun h => ?_)
  refine g_istore_n X [1, 2, 3, 0] (ls1 := [(0, .ref (ad 26)), (1, iv x1), (2, iv x2), (3, iv (w 30 ((7 * x1) + 3).toNat))]) dX4_isAhead_11 rfl (by decide) rfl ?_
  refine g_aload_n X 0 dX4_isAhead_12 rfl rfl ?_
  refine gf_X4_19 X dX4_isAhead_13 ?_
  refine g_bipush X 7 dX4_isAhead_16 (by decide) ?_
  refine g_iload_n X 2 dX4_isAhead_18 rfl rfl ?_
  refine g_imul X dX4_isAhead_19 ?_
  refine g_iconst X dX4_isAhead_20 ?_
  refine g_iadd X dX4_isAhead_21 ?_
  refine g_iald X (n := 49) (c := 30) h rfl (by decide) dX4_isAhead_22 (fun h => ?_)
  refine g_istore X [1, 2, 3, 4, 0] (ls1 := [(0, .ref (ad 26)), (1, iv x1), (2, iv x2), (3, iv (w 30 ((7 * x1) + 3).toNat)), (4, iv (w 30 ((7 * x2) + 3).toNat))]) dX4_isAhead_23 (by decide) rfl ?_
  refine g_iload_n X 3 dX4_isAhead_25 rfl rfl ?_
  refine g_iload X 4 dX4_isAhead_26 rfl ?_
  refine g_icmp_gt X h dX4_isAhead_28 (tgt := 42) (by decide) (fun h => ?_) (fun h => ?_)
  · refine g_iconst X dX4_isAhead_42 ?_
    refine g_goto X (tgt := 47) dX4_isAhead_43 (by decide) ?_
    exact g_zretC X Z h (by decide) dX4_isAhead_47
  · refine g_iload_n X 3 dX4_isAhead_31 rfl rfl ?_
    refine g_iload X 4 dX4_isAhead_32 rfl ?_
    refine g_icmp_ne X h dX4_isAhead_34 (tgt := 46) (by decide) (fun h => ?_) (fun h => ?_)
    · refine g_iconst X dX4_isAhead_46 ?_
      exact g_zretC X Z h (by decide) dX4_isAhead_47
    · refine g_iload_n X 1 dX4_isAhead_37 rfl rfl ?_
      refine g_iload_n X 2 dX4_isAhead_38 rfl rfl ?_
      refine g_icmp_ge X h dX4_isAhead_39 (tgt := 46) (by decide) (fun h => ?_) (fun h => ?_)
      · refine g_iconst X dX4_isAhead_46 ?_
        exact g_zretC X Z h (by decide) dX4_isAhead_47
      · refine g_iconst X dX4_isAhead_42 ?_
        refine g_goto X (tgt := 47) dX4_isAhead_43 (by decide) ?_
        exact g_zretC X Z h (by decide) dX4_isAhead_47

/-! TallShipsModel.paradeAt -/
noncomputable def m_paradeAt_28 (x1 x2 : Int) (k1 : Int → Wd → Option (Int × Wd)) : Nat → Int → Int → Wd → Option (Int × Wd)
  | 0, _, _, _ => none
  | n + 1, x3, x4, w =>
    (if wr (w 26 4) ≤ wr x4 then
      (k1 x3 w)
    else
      (if 0 ≤ x4 ∧ x4 < 7 then
      (if wr (w 33 x4.toNat) = wr (-1) then
        (m_paradeAt_28 x1 x2 k1 n x3 (x4 + 1) w)
      else
        (if wr x4 = wr x2 then
          (m_paradeAt_28 x1 x2 k1 n x3 (x4 + 1) w)
        else
          ((m_isAhead x4 x2 w).bind fun q58 =>
          (if wr q58.1 = 0 then
            (m_paradeAt_28 x1 x2 k1 n x3 (x4 + 1) q58.2)
          else
            (m_paradeAt_28 x1 x2 k1 n (x3 + 1) (x4 + 1) q58.2)))))
      else none))
theorem m_paradeAt_28_ok {lc : Launch} {κ : KX} {D : CX} {ad : Nat → Nat} {x1 x2 : Int} {k1 : Int → Wd → Option (Int × Wd)} {v : Int × Wd} (X : gX κ D cX4_paradeAt RX4 rmX4_paradeAt lc 5) (Z : gQ κ D LAY ad (some .int) (some (iv v.1)) v.2 0 0) (hk1 : ∀ (x3 : Int) (w : Wd), k1 x3 w = some v → G κ D LAY ad 0 0 w 73 [(0, .ref (ad 26)), (1, iv x1), (2, iv x2), (3, iv x3)] []) : ∀ (n : Nat) (x3 : Int) (x4 : Int) (w : Wd), m_paradeAt_28 x1 x2 k1 n x3 x4 w = some v → G κ D LAY ad 0 0 w 28 [(0, .ref (ad 26)), (1, iv x1), (2, iv x2), (3, iv x3), (4, iv x4)] [] := by
  intro n
  induction n with
  | zero =>
    intro x3 x4 w h
    cases h
  | succ n ih =>
    intro x3 x4 w h
    rw [m_paradeAt_28] at h
    refine g_iload X 4 dX4_paradeAt_28 rfl ?_
    refine g_aload_n X 0 dX4_paradeAt_30 rfl rfl ?_
    refine gf_X4_54 X dX4_paradeAt_31 ?_
    refine g_icmp_ge X h dX4_paradeAt_34 (tgt := 73) (by decide) (fun h => ?_) (fun h => ?_)
    · refine g_sub [0, 1, 2, 3] rfl ?_
      exact hk1 x3 w h
    · refine g_aload_n X 0 dX4_paradeAt_37 rfl rfl ?_
      refine gf_X4_29 X dX4_paradeAt_38 ?_
      refine g_iload X 4 dX4_paradeAt_41 rfl ?_
      refine g_iald X (n := 7) (c := 33) h rfl (by decide) dX4_paradeAt_43 (fun h => ?_)
      refine g_iconst X dX4_paradeAt_44 ?_
      refine g_icmp_eq X h dX4_paradeAt_45 (tgt := 67) (by decide) (fun h => ?_) (fun h => ?_)
      · refine g_iinc X 4 [1, 2, 3, 4, 0] (ls1 := [(0, .ref (ad 26)), (1, iv x1), (2, iv x2), (3, iv x3), (4, iv (x4 + 1))]) dX4_paradeAt_67 rfl (by decide) rfl ?_
        refine g_goto X (tgt := 28) dX4_paradeAt_70 (by decide) ?_
        exact ih x3 (x4 + 1) w h
      · refine g_iload X 4 dX4_paradeAt_48 rfl ?_
        refine g_iload_n X 2 dX4_paradeAt_50 rfl rfl ?_
        refine g_icmp_eq X h dX4_paradeAt_51 (tgt := 67) (by decide) (fun h => ?_) (fun h => ?_)
        · refine g_iinc X 4 [1, 2, 3, 4, 0] (ls1 := [(0, .ref (ad 26)), (1, iv x1), (2, iv x2), (3, iv x3), (4, iv (x4 + 1))]) dX4_paradeAt_67 rfl (by decide) rfl ?_
          refine g_goto X (tgt := 28) dX4_paradeAt_70 (by decide) ?_
          exact ih x3 (x4 + 1) w h
        · refine g_aload_n X 0 dX4_paradeAt_54 rfl rfl ?_
          refine g_iload X 4 dX4_paradeAt_55 rfl ?_
          refine g_iload_n X 2 dX4_paradeAt_57 rfl rfl ?_
          obtain ⟨q58, e58, h⟩ := bindE h
          refine g_callVi X (st := []) 26 [iv x4, iv x2] (mc_m_isAhead e58) cal_X4_isAhead rfl rfl wm_X4_137 (by decide) rfl rfl ⟨by decide, by decide⟩ rfl (Nat.le_of_ble_eq_true rfl) dX4_paradeAt_58 ?_
          refine g_if_eq X h dX4_paradeAt_61 (tgt := 67) (by decide) (fun h => ?_) (fun h => ?_)
          · refine g_iinc X 4 [1, 2, 3, 4, 0] (ls1 := [(0, .ref (ad 26)), (1, iv x1), (2, iv x2), (3, iv x3), (4, iv (x4 + 1))]) dX4_paradeAt_67 rfl (by decide) rfl ?_
            refine g_goto X (tgt := 28) dX4_paradeAt_70 (by decide) ?_
            exact ih x3 (x4 + 1) q58.2 h
          · refine g_iinc X 3 [1, 2, 3, 0, 4] (ls1 := [(0, .ref (ad 26)), (1, iv x1), (2, iv x2), (3, iv (x3 + 1)), (4, iv x4)]) dX4_paradeAt_64 rfl (by decide) rfl ?_
            refine g_iinc X 4 [1, 2, 3, 4, 0] (ls1 := [(0, .ref (ad 26)), (1, iv x1), (2, iv x2), (3, iv (x3 + 1)), (4, iv (x4 + 1))]) dX4_paradeAt_67 rfl (by decide) rfl ?_
            refine g_goto X (tgt := 28) dX4_paradeAt_70 (by decide) ?_
            exact ih (x3 + 1) (x4 + 1) q58.2 h
noncomputable def m_paradeAt_2 (x1 : Int) : Nat → Int → Wd → Option (Int × Wd)
  | 0, _, _ => none
  | n + 1, x2, w =>
    (if wr (w 26 4) ≤ wr x2 then
      some ((-1), w)
    else
      (if 0 ≤ x2 ∧ x2 < 7 then
      (if wr (w 33 x2.toNat) = wr (-1) then
        (m_paradeAt_2 x1 n (x2 + 1) w)
      else
        (m_paradeAt_28 x1 x2 (fun (e73_3 : Int) (w73 : Wd) =>
          (if wr e73_3 = wr x1 then
            some (x2, w73)
          else
            (m_paradeAt_2 x1 n (x2 + 1) w73))) FU 0 0 w))
      else none))
theorem m_paradeAt_2_ok {lc : Launch} {κ : KX} {D : CX} {ad : Nat → Nat} {x1 : Int} {v : Int × Wd} (X : gX κ D cX4_paradeAt RX4 rmX4_paradeAt lc 5) (Z : gQ κ D LAY ad (some .int) (some (iv v.1)) v.2 0 0) : ∀ (n : Nat) (x2 : Int) (w : Wd), m_paradeAt_2 x1 n x2 w = some v → G κ D LAY ad 0 0 w 2 [(0, .ref (ad 26)), (1, iv x1), (2, iv x2)] [] := by
  intro n
  induction n with
  | zero =>
    intro x2 w h
    cases h
  | succ n ih =>
    intro x2 w h
    rw [m_paradeAt_2] at h
    refine g_iload_n X 2 dX4_paradeAt_2 rfl rfl ?_
    refine g_aload_n X 0 dX4_paradeAt_3 rfl rfl ?_
    refine gf_X4_54 X dX4_paradeAt_4 ?_
    refine g_icmp_ge X h dX4_paradeAt_7 (tgt := 86) (by decide) (fun h => ?_) (fun h => ?_)
    · refine g_iconst X dX4_paradeAt_86 ?_
      exact g_iret X Z h dX4_paradeAt_87
    · refine g_aload_n X 0 dX4_paradeAt_10 rfl rfl ?_
      refine gf_X4_29 X dX4_paradeAt_11 ?_
      refine g_iload_n X 2 dX4_paradeAt_14 rfl rfl ?_
      refine g_iald X (n := 7) (c := 33) h rfl (by decide) dX4_paradeAt_15 (fun h => ?_)
      refine g_iconst X dX4_paradeAt_16 ?_
      refine g_icmp_ne X h dX4_paradeAt_17 (tgt := 23) (by decide) (fun h => ?_) (fun h => ?_)
      · refine g_iconst X dX4_paradeAt_23 ?_
        refine g_istore_n X [1, 2, 3, 0] (ls1 := [(0, .ref (ad 26)), (1, iv x1), (2, iv x2), (3, iv 0)]) dX4_paradeAt_24 rfl (by decide) rfl ?_
        refine g_iconst X dX4_paradeAt_25 ?_
        refine g_istore X [1, 2, 3, 4, 0] (ls1 := [(0, .ref (ad 26)), (1, iv x1), (2, iv x2), (3, iv 0), (4, iv 0)]) dX4_paradeAt_26 (by decide) rfl ?_
        refine m_paradeAt_28_ok X Z ?_ FU 0 0 w h
        · intro e73_3 w73 h
          refine g_iload_n X 3 dX4_paradeAt_73 rfl rfl ?_
          refine g_iload_n X 1 dX4_paradeAt_74 rfl rfl ?_
          refine g_icmp_ne X h dX4_paradeAt_75 (tgt := 80) (by decide) (fun h => ?_) (fun h => ?_)
          · refine g_iinc X 2 [1, 2, 0, 3] (ls1 := [(0, .ref (ad 26)), (1, iv x1), (2, iv (x2 + 1)), (3, iv e73_3)]) dX4_paradeAt_80 rfl (by decide) rfl ?_
            refine g_goto X (tgt := 2) dX4_paradeAt_83 (by decide) ?_
            refine g_sub [0, 1, 2] rfl ?_
            exact ih (x2 + 1) w73 h
          · refine g_iload_n X 2 dX4_paradeAt_78 rfl rfl ?_
            exact g_iret X Z h dX4_paradeAt_79
      · refine g_goto X (tgt := 80) dX4_paradeAt_20 (by decide) ?_
        refine g_iinc X 2 [1, 2, 0] (ls1 := [(0, .ref (ad 26)), (1, iv x1), (2, iv (x2 + 1))]) dX4_paradeAt_80 rfl (by decide) rfl ?_
        refine g_goto X (tgt := 2) dX4_paradeAt_83 (by decide) ?_
        exact ih (x2 + 1) w h
noncomputable def m_paradeAt (x1 : Int) (w : Wd) : Option (Int × Wd) :=
  (m_paradeAt_2 x1 FU 0 w)
theorem mc_m_paradeAt {lc : Launch} {D : CX} {ad : Nat → Nat} {w : Wd} {x1 : Int} {v : Int × Wd} (h : m_paradeAt x1 w = some v) : Mc lc yX4_paradeAt cX4_paradeAt 5 (some .int) rmX4_paradeAt D LAY ad [.ref (ad 26), iv x1] w (some (iv v.1)) v.2 0 0 := by
  refine mc_of (by decide) (Nat.le_of_ble_eq_true rfl) ?_
  intro κ X Z
  show G κ D LAY ad 0 0 w 0 [(0, .ref (ad 26)), (1, iv x1)] []
  unfold m_paradeAt at h
  refine g_iconst X dX4_paradeAt_0 ?_
  refine g_istore_n X [1, 2, 0] (ls1 := [(0, .ref (ad 26)), (1, iv x1), (2, iv 0)]) dX4_paradeAt_1 rfl (by decide) rfl ?_
  refine m_paradeAt_2_ok X Z FU 0 w h

/-! TallShipsModel.parade -/
noncomputable def m_parade (x1 : Int) (w : Wd) : Option (Int × Wd) :=
  ((m_paradeAt x1 (wset w 26 10 0)).bind fun q7 =>
  some (q7.1, q7.2))
theorem mc_m_parade {lc : Launch} {D : CX} {ad : Nat → Nat} {w : Wd} {x1 : Int} {v : Int × Wd} (h : m_parade x1 w = some v) : Mc lc yX4_parade cX4_parade 2 (some .int) rmX4_parade D LAY ad [.ref (ad 26), iv x1] w (some (iv v.1)) v.2 0 0 := by
  refine mc_of (by decide) (Nat.le_of_ble_eq_true rfl) ?_
  intro κ X Z
  show G κ D LAY ad 0 0 w 0 [(0, .ref (ad 26)), (1, iv x1)] []
  unfold m_parade at h
  refine g_aload_n X 0 dX4_parade_0 rfl rfl ?_
  refine g_iconst X dX4_parade_1 ?_
  refine gp_X4_50 X dX4_parade_2 ?_
  refine g_aload_n X 0 dX4_parade_5 rfl rfl ?_
  refine g_iload_n X 1 dX4_parade_6 rfl rfl ?_
  obtain ⟨q7, e7, h⟩ := bindE h
  refine g_callVi X (st := []) 26 [iv x1] (mc_m_paradeAt e7) cal_X4_paradeAt rfl rfl wm_X4_140 (by decide) rfl rfl ⟨by decide, by decide⟩ rfl (Nat.le_of_ble_eq_true rfl) dX4_parade_7 ?_
  exact g_iret X Z h dX4_parade_10

/-! TallShipsModel.minutes -/
noncomputable def m_minutes_9 : Nat → Int → Int → Wd → Option (Int × Wd)
  | 0, _, _, _ => none
  | n + 1, x1, x2, w =>
    ((m_berthed 33 w).bind fun q15 =>
    (if wr q15.1 ≤ wr x2 then
      some (x1, q15.2)
    else
      ((m_paradeAt (x2 - 1) q15.2).bind fun q31 =>
      (if 0 ≤ ((7 * q31.1) + 6) ∧ ((7 * q31.1) + 6) < 49 then
      ((m_paradeAt x2 q31.2).bind fun q48 =>
      (if 0 ≤ ((7 * q48.1) + 6) ∧ ((7 * q48.1) + 6) < 49 then
      (if wr (q31.2 30 ((7 * q31.1) + 6).toNat) ≤ wr (q48.2 30 ((7 * q48.1) + 6).toNat) then
        (m_minutes_9 n (x1 + (q48.2 30 ((7 * q48.1) + 6).toNat)) (x2 + 1) q48.2)
      else
        (m_minutes_9 n (x1 + (q31.2 30 ((7 * q31.1) + 6).toNat)) (x2 + 1) q48.2))
      else none))
      else none))))
theorem m_minutes_9_ok {lc : Launch} {κ : KX} {D : CX} {ad : Nat → Nat} {v : Int × Wd} (X : gX κ D cX4_minutes RX4 rmX4_minutes lc 5) (Z : gQ κ D LAY ad (some .int) (some (iv v.1)) v.2 0 0) : ∀ (n : Nat) (x1 : Int) (x2 : Int) (w : Wd), m_minutes_9 n x1 x2 w = some v → G κ D LAY ad 0 0 w 9 [(0, .ref (ad 26)), (1, iv x1), (2, iv x2)] [] := by
  intro n
  induction n with
  | zero =>
    intro x1 x2 w h
    cases h
  | succ n ih =>
    intro x1 x2 w h
    rw [m_minutes_9] at h
    refine g_iload_n X 2 dX4_minutes_9 rfl rfl ?_
    refine g_aload_n X 0 dX4_minutes_10 rfl rfl ?_
    refine g_aload_n X 0 dX4_minutes_11 rfl rfl ?_
    refine gf_X4_29 X dX4_minutes_12 ?_
    obtain ⟨q15, e15, h⟩ := bindE h
    refine g_callVi X (st := [iv x2]) 26 [.ref (ad 33)] (mc_m_berthed rfl e15) cal_X4_berthed rfl rfl wm_X4_100 (by decide) rfl rfl ⟨by decide, by decide⟩ rfl (Nat.le_of_ble_eq_true rfl) dX4_minutes_15 ?_
    refine g_icmp_ge X h dX4_minutes_18 (tgt := 79) (by decide) (fun h => ?_) (fun h => ?_)
    · refine g_iload_n X 1 dX4_minutes_79 rfl rfl ?_
      exact g_iret X Z h dX4_minutes_80
    · refine g_aload_n X 0 dX4_minutes_21 rfl rfl ?_
      refine gf_X4_19 X dX4_minutes_22 ?_
      refine g_bipush X 7 dX4_minutes_25 (by decide) ?_
      refine g_aload_n X 0 dX4_minutes_27 rfl rfl ?_
      refine g_iload_n X 2 dX4_minutes_28 rfl rfl ?_
      refine g_iconst X dX4_minutes_29 ?_
      refine g_isub X dX4_minutes_30 ?_
      obtain ⟨q31, e31, h⟩ := bindE h
      refine g_callVi X (st := [iv 7, .ref (ad 30)]) 26 [iv (x2 - 1)] (mc_m_paradeAt e31) cal_X4_paradeAt rfl rfl wm_X4_140 (by decide) rfl rfl ⟨by decide, by decide⟩ rfl (Nat.le_of_ble_eq_true rfl) dX4_minutes_31 ?_
      refine g_imul X dX4_minutes_34 ?_
      refine g_bipush X 6 dX4_minutes_35 (by decide) ?_
      refine g_iadd X dX4_minutes_37 ?_
      refine g_iald X (n := 49) (c := 30) h rfl (by decide) dX4_minutes_38 (fun h => ?_)
      refine g_istore_n X [1, 2, 3, 0] (ls1 := [(0, .ref (ad 26)), (1, iv x1), (2, iv x2), (3, iv (q31.2 30 ((7 * q31.1) + 6).toNat))]) dX4_minutes_39 rfl (by decide) rfl ?_
      refine g_aload_n X 0 dX4_minutes_40 rfl rfl ?_
      refine gf_X4_19 X dX4_minutes_41 ?_
      refine g_bipush X 7 dX4_minutes_44 (by decide) ?_
      refine g_aload_n X 0 dX4_minutes_46 rfl rfl ?_
      refine g_iload_n X 2 dX4_minutes_47 rfl rfl ?_
      obtain ⟨q48, e48, h⟩ := bindE h
      refine g_callVi X (st := [iv 7, .ref (ad 30)]) 26 [iv x2] (mc_m_paradeAt e48) cal_X4_paradeAt rfl rfl wm_X4_140 (by decide) rfl rfl ⟨by decide, by decide⟩ rfl (Nat.le_of_ble_eq_true rfl) dX4_minutes_48 ?_
      refine g_imul X dX4_minutes_51 ?_
      refine g_bipush X 6 dX4_minutes_52 (by decide) ?_
      refine g_iadd X dX4_minutes_54 ?_
      refine g_iald X (n := 49) (c := 30) h rfl (by decide) dX4_minutes_55 (fun h => ?_)
      refine g_istore X [1, 2, 3, 4, 0] (ls1 := [(0, .ref (ad 26)), (1, iv x1), (2, iv x2), (3, iv (q31.2 30 ((7 * q31.1) + 6).toNat)), (4, iv (q48.2 30 ((7 * q48.1) + 6).toNat))]) dX4_minutes_56 (by decide) rfl ?_
      refine g_iload_n X 1 dX4_minutes_58 rfl rfl ?_
      refine g_iload_n X 3 dX4_minutes_59 rfl rfl ?_
      refine g_iload X 4 dX4_minutes_60 rfl ?_
      refine g_icmp_le X h dX4_minutes_62 (tgt := 69) (by decide) (fun h => ?_) (fun h => ?_)
      · refine g_iload X 4 dX4_minutes_69 rfl ?_
        refine g_iadd X dX4_minutes_71 ?_
        refine g_istore_n X [1, 0, 2, 3, 4] (ls1 := [(0, .ref (ad 26)), (1, iv (x1 + (q48.2 30 ((7 * q48.1) + 6).toNat))), (2, iv x2), (3, iv (q31.2 30 ((7 * q31.1) + 6).toNat)), (4, iv (q48.2 30 ((7 * q48.1) + 6).toNat))]) dX4_minutes_72 rfl (by decide) rfl ?_
        refine g_iinc X 2 [1, 2, 0, 3, 4] (ls1 := [(0, .ref (ad 26)), (1, iv (x1 + (q48.2 30 ((7 * q48.1) + 6).toNat))), (2, iv (x2 + 1)), (3, iv (q31.2 30 ((7 * q31.1) + 6).toNat)), (4, iv (q48.2 30 ((7 * q48.1) + 6).toNat))]) dX4_minutes_73 rfl (by decide) rfl ?_
        refine g_goto X (tgt := 9) dX4_minutes_76 (by decide) ?_
        refine g_sub [0, 1, 2] rfl ?_
        exact ih (x1 + (q48.2 30 ((7 * q48.1) + 6).toNat)) (x2 + 1) q48.2 h
      · refine g_iload_n X 3 dX4_minutes_65 rfl rfl ?_
        refine g_goto X (tgt := 71) dX4_minutes_66 (by decide) ?_
        refine g_iadd X dX4_minutes_71 ?_
        refine g_istore_n X [1, 0, 2, 3, 4] (ls1 := [(0, .ref (ad 26)), (1, iv (x1 + (q31.2 30 ((7 * q31.1) + 6).toNat))), (2, iv x2), (3, iv (q31.2 30 ((7 * q31.1) + 6).toNat)), (4, iv (q48.2 30 ((7 * q48.1) + 6).toNat))]) dX4_minutes_72 rfl (by decide) rfl ?_
        refine g_iinc X 2 [1, 2, 0, 3, 4] (ls1 := [(0, .ref (ad 26)), (1, iv (x1 + (q31.2 30 ((7 * q31.1) + 6).toNat))), (2, iv (x2 + 1)), (3, iv (q31.2 30 ((7 * q31.1) + 6).toNat)), (4, iv (q48.2 30 ((7 * q48.1) + 6).toNat))]) dX4_minutes_73 rfl (by decide) rfl ?_
        refine g_goto X (tgt := 9) dX4_minutes_76 (by decide) ?_
        refine g_sub [0, 1, 2] rfl ?_
        exact ih (x1 + (q31.2 30 ((7 * q31.1) + 6).toNat)) (x2 + 1) q48.2 h
noncomputable def m_minutes (w : Wd) : Option (Int × Wd) :=
  (m_minutes_9 FU 0 1 (wset w 26 10 0))
theorem mc_m_minutes {lc : Launch} {D : CX} {ad : Nat → Nat} {w : Wd} {v : Int × Wd} (h : m_minutes w = some v) : Mc lc yX4_minutes cX4_minutes 5 (some .int) rmX4_minutes D LAY ad [.ref (ad 26)] w (some (iv v.1)) v.2 0 0 := by
  refine mc_of (by decide) (Nat.le_of_ble_eq_true rfl) ?_
  intro κ X Z
  show G κ D LAY ad 0 0 w 0 [(0, .ref (ad 26))] []
  unfold m_minutes at h
  refine g_aload_n X 0 dX4_minutes_0 rfl rfl ?_
  refine g_iconst X dX4_minutes_1 ?_
  refine gp_X4_50 X dX4_minutes_2 ?_
  refine g_iconst X dX4_minutes_5 ?_
  refine g_istore_n X [1, 0] (ls1 := [(0, .ref (ad 26)), (1, iv 0)]) dX4_minutes_6 rfl (by decide) rfl ?_
  refine g_iconst X dX4_minutes_7 ?_
  refine g_istore_n X [1, 2, 0] (ls1 := [(0, .ref (ad 26)), (1, iv 0), (2, iv 1)]) dX4_minutes_8 rfl (by decide) rfl ?_
  refine m_minutes_9_ok X Z FU 0 1 (wset w 26 10 0) h

/-! TallShipsModel.open -/
noncomputable def m_open_47 (x1 x3 : Int) : Nat → Int → Int → Wd → Option (Int × Wd)
  | 0, _, _, _ => none
  | n + 1, x4, x5, w =>
    (if wr x3 < wr x5 then
      some (x4, w)
    else
      (if 0 ≤ x1 ∧ x1 < 7 then
      (if 0 ≤ ((5 * (w 33 x1.toNat)) + 4) ∧ ((5 * (w 33 x1.toNat)) + 4) < 20 then
      ((m_level x5 w).bind fun q71 =>
      (if wr (q71.2 28 4) < wr (iabs (((w 31 ((5 * (w 33 x1.toNat)) + 4).toNat) - q71.1) - 30)) then
        (m_open_47 x1 x3 n x4 (x5 + 1) q71.2)
      else
        (m_open_47 x1 x3 n (x4 + 1) (x5 + 1) q71.2)))
      else none)
      else none))
theorem m_open_47_ok {lc : Launch} {κ : KX} {D : CX} {ad : Nat → Nat} {x1 x3 : Int} {v : Int × Wd} (X : gX κ D cX4_open RX4 rmX4_open lc 6) (Z : gQ κ D LAY ad (some .int) (some (iv v.1)) v.2 0 0) : ∀ (n : Nat) (x4 : Int) (x5 : Int) (w : Wd), m_open_47 x1 x3 n x4 x5 w = some v → G κ D LAY ad 0 0 w 47 [(0, .ref (ad 26)), (1, iv x1), (3, iv x3), (4, iv x4), (5, iv x5)] [] := by
  intro n
  induction n with
  | zero =>
    intro x4 x5 w h
    cases h
  | succ n ih =>
    intro x4 x5 w h
    rw [m_open_47] at h
    refine g_iload X 4 dX4_open_47 rfl ?_
    refine g_iload_n X 2 dX4_open_49 rfl rfl ?_
    refine g_icmp_gt X h dX4_open_50 (tgt := 99) (by decide) (fun h => ?_) (fun h => ?_)
    · refine g_iload X 3 dX4_open_99 rfl ?_
      exact g_iret X Z h dX4_open_101
    · refine g_aload_n X 0 dX4_open_53 rfl rfl ?_
      refine gf_X4_22 X dX4_open_54 ?_
      refine g_iconst X dX4_open_57 ?_
      refine g_aload_n X 0 dX4_open_58 rfl rfl ?_
      refine gf_X4_29 X dX4_open_59 ?_
      refine g_iload_n X 1 dX4_open_62 rfl rfl ?_
      refine g_iald X (n := 7) (c := 33) h rfl (by decide) dX4_open_63 (fun h => ?_)
      refine g_imul X dX4_open_64 ?_
      refine g_iconst X dX4_open_65 ?_
      refine g_iadd X dX4_open_66 ?_
      refine g_iald X (n := 20) (c := 31) h rfl (by decide) dX4_open_67 (fun h => ?_)
      refine g_aload_n X 0 dX4_open_68 rfl rfl ?_
      refine g_iload X 4 dX4_open_69 rfl ?_
      obtain ⟨q71, e71, h⟩ := bindE h
      refine g_callVi X (st := [iv (w 31 ((5 * (w 33 x1.toNat)) + 4).toNat)]) 26 [iv x5] (mc_m_level e71) cal_X4_level rfl rfl wm_X4_75 (by decide) rfl rfl ⟨by decide, by decide⟩ rfl (Nat.le_of_ble_eq_true rfl) dX4_open_71 ?_
      refine g_isub X dX4_open_74 ?_
      refine g_bipush X 30 dX4_open_75 (by decide) ?_
      refine g_isub X dX4_open_77 ?_
      refine g_mabs X wm_X4_143 (by decide) ⟨by decide, by decide⟩ (Nat.le_of_ble_eq_true rfl) dX4_open_78 ?_
      refine g_aload_n X 0 dX4_open_81 rfl rfl ?_
      refine gf_X4_13 X dX4_open_82 ?_
      refine g_iconst X dX4_open_85 ?_
      refine g_ialdC X 4 (n := 5) (c := 28) (by decide) (by decide) rfl (by decide) dX4_open_86 ?_
      refine g_icmp_gt X h dX4_open_87 (tgt := 93) (by decide) (fun h => ?_) (fun h => ?_)
      · refine g_iinc X 4 [1, 2, 3, 4, 0] (ls1 := [(0, .ref (ad 26)), (1, iv x1), (3, iv x3), (4, iv x4), (5, iv (x5 + 1))]) dX4_open_93 rfl (by decide) rfl ?_
        refine g_goto X (tgt := 47) dX4_open_96 (by decide) ?_
        exact ih x4 (x5 + 1) q71.2 h
      · refine g_iinc X 3 [1, 2, 3, 0, 4] (ls1 := [(0, .ref (ad 26)), (1, iv x1), (3, iv x3), (4, iv (x4 + 1)), (5, iv x5)]) dX4_open_90 rfl (by decide) rfl ?_
        refine g_iinc X 4 [1, 2, 3, 4, 0] (ls1 := [(0, .ref (ad 26)), (1, iv x1), (3, iv x3), (4, iv (x4 + 1)), (5, iv (x5 + 1))]) dX4_open_93 rfl (by decide) rfl ?_
        refine g_goto X (tgt := 47) dX4_open_96 (by decide) ?_
        exact ih (x4 + 1) (x5 + 1) q71.2 h
noncomputable def m_open (x1 x2 x3 : Int) (w : Wd) : Option (Int × Wd) :=
  ((m_isShip x1 (wset w 26 10 0)).bind fun q7 =>
  (if wr q7.1 = 0 then
    some ((-1), q7.2)
  else
    (if 0 ≤ x1 ∧ x1 < 7 then
    (if wr (q7.2 33 x1.toNat) = wr (-1) then
      some ((-1), q7.2)
    else
      ((m_isHour x3 q7.2).bind fun q24 =>
      (if wr q24.1 = 0 then
        some ((-1), q24.2)
      else
        ((m_in x2 0 x3 q24.2).bind fun q33 =>
        (if wr q33.1 = 0 then
          some ((-1), q33.2)
        else
          (m_open_47 x1 x3 FU 0 x2 q33.2))))))
    else none)))
theorem mc_m_open {lc : Launch} {D : CX} {ad : Nat → Nat} {w : Wd} {x1 x2 x3 : Int} {v : Int × Wd} (h : m_open x1 x2 x3 w = some v) : Mc lc yX4_open cX4_open 6 (some .int) rmX4_open D LAY ad [.ref (ad 26), iv x1, iv x2, iv x3] w (some (iv v.1)) v.2 0 0 := by
  refine mc_of (by decide) (Nat.le_of_ble_eq_true rfl) ?_
  intro κ X Z
  show G κ D LAY ad 0 0 w 0 [(0, .ref (ad 26)), (1, iv x1), (2, iv x2), (3, iv x3)] []
  unfold m_open at h
  refine g_aload_n X 0 dX4_open_0 rfl rfl ?_
  refine g_iconst X dX4_open_1 ?_
  refine gp_X4_50 X dX4_open_2 ?_
  refine g_aload_n X 0 dX4_open_5 rfl rfl ?_
  refine g_iload_n X 1 dX4_open_6 rfl rfl ?_
  obtain ⟨q7, e7, h⟩ := bindE h
  refine g_callVi X (st := []) 26 [iv x1] (mc_m_isShip e7) cal_X4_isShip rfl rfl wm_X4_72 (by decide) rfl rfl ⟨by decide, by decide⟩ rfl (Nat.le_of_ble_eq_true rfl) dX4_open_7 ?_
  refine g_if_eq X h dX4_open_10 (tgt := 39) (by decide) (fun h => ?_) (fun h => ?_)
  · refine g_iconst X dX4_open_39 ?_
    exact g_iret X Z h dX4_open_40
  · refine g_aload_n X 0 dX4_open_13 rfl rfl ?_
    refine gf_X4_29 X dX4_open_14 ?_
    refine g_iload_n X 1 dX4_open_17 rfl rfl ?_
    refine g_iald X (n := 7) (c := 33) h rfl (by decide) dX4_open_18 (fun h => ?_)
    refine g_iconst X dX4_open_19 ?_
    refine g_icmp_eq X h dX4_open_20 (tgt := 39) (by decide) (fun h => ?_) (fun h => ?_)
    · refine g_iconst X dX4_open_39 ?_
      exact g_iret X Z h dX4_open_40
    · refine g_iload_n X 3 dX4_open_23 rfl rfl ?_
      obtain ⟨q24, e24, h⟩ := bindE h
      refine g_callSi X (st := []) [iv x3] (mc_m_isHour e24) cal_X4_isHour wm_X4_68 (by decide) rfl rfl ⟨by decide, by decide⟩ rfl (Nat.le_of_ble_eq_true rfl) dX4_open_24 ?_
      refine g_if_eq X h dX4_open_27 (tgt := 39) (by decide) (fun h => ?_) (fun h => ?_)
      · refine g_iconst X dX4_open_39 ?_
        exact g_iret X Z h dX4_open_40
      · refine g_iload_n X 2 dX4_open_30 rfl rfl ?_
        refine g_iconst X dX4_open_31 ?_
        refine g_iload_n X 3 dX4_open_32 rfl rfl ?_
        obtain ⟨q33, e33, h⟩ := bindE h
        refine g_callSi X (st := []) [iv x2, iv 0, iv x3] (mc_m_in e33) cal_X4_in wm_X4_57 (by decide) rfl rfl ⟨by decide, by decide⟩ rfl (Nat.le_of_ble_eq_true rfl) dX4_open_33 ?_
        refine g_if_ne X h dX4_open_36 (tgt := 41) (by decide) (fun h => ?_) (fun h => ?_)
        · refine g_iconst X dX4_open_41 ?_
          refine g_istore X [1, 2, 3, 4, 0] (ls1 := [(0, .ref (ad 26)), (1, iv x1), (2, iv x2), (3, iv x3), (4, iv 0)]) dX4_open_42 (by decide) rfl ?_
          refine g_iload_n X 2 dX4_open_44 rfl rfl ?_
          refine g_istore X [1, 2, 3, 4, 5, 0] (ls1 := [(0, .ref (ad 26)), (1, iv x1), (2, iv x2), (3, iv x3), (4, iv 0), (5, iv x2)]) dX4_open_45 (by decide) rfl ?_
          refine g_sub [0, 1, 3, 4, 5] rfl ?_
          refine m_open_47_ok X Z FU 0 x2 q33.2 h
        · refine g_iconst X dX4_open_39 ?_
          exact g_iret X Z h dX4_open_40


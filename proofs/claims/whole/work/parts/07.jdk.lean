/-! java/util/Arrays.fill -/
noncomputable def ja_fillI_5 (c1 : Nat) (l1 : Nat) (x1 x3 : Int) : Nat → Int → Wd → Option (Int × Wd)
  | 0, _, _ => none
  | n + 1, x2, w =>
    (if wr x3 ≤ wr x2 then
      some (0, w)
    else
      (if 0 ≤ x2 ∧ x2 < (l1 : Int) then
      (ja_fillI_5 c1 l1 x1 x3 n (x2 + 1) (wset w c1 x2.toNat x1))
      else none))
theorem ja_fillI_5_ok {lc : Launch} {κ : KX} {D : CX} {lay : List Kd} {ad : Nat → Nat} {c1 l1 : Nat} {x1 x3 : Int} {v : Int × Wd} (X : gX κ D cJ7_fill_53178 RJ7 rmJ7_fill_53178 lc 4) (Z : gQ κ D lay ad none none v.2 0 0) (hc1 : lay[c1]? = some (.inl (0, l1))) (hc1n : l1 ≤ 2147483647) : ∀ (n : Nat) (x2 : Int) (w : Wd), ja_fillI_5 c1 l1 x1 x3 n x2 w = some v → G κ D lay ad 0 0 w 5 [(0, .ref (ad c1)), (1, iv x1), (2, iv x2), (3, iv x3)] [] := by
  intro n
  induction n with
  | zero =>
    intro x2 w h
    cases h
  | succ n ih =>
    intro x2 w h
    rw [ja_fillI_5] at h
    refine g_iload_n X 2 dJ7_fill_53178_5 rfl rfl ?_
    refine g_iload_n X 3 dJ7_fill_53178_6 rfl rfl ?_
    refine g_icmp_ge X h dJ7_fill_53178_7 (tgt := 20) (by decide) (fun h => ?_) (fun h => ?_)
    · exact g_vret X Z h dJ7_fill_53178_20
    · refine g_aload_n X 0 dJ7_fill_53178_10 rfl rfl ?_
      refine g_iload_n X 2 dJ7_fill_53178_11 rfl rfl ?_
      refine g_iload_n X 1 dJ7_fill_53178_12 rfl rfl ?_
      refine g_iast X (n := l1) (c := c1) h hc1 hc1n dJ7_fill_53178_13 (fun h => ?_)
      refine g_iinc X 2 [1, 2, 0, 3] (ls1 := [(0, .ref (ad c1)), (1, iv x1), (2, iv (x2 + 1)), (3, iv x3)]) dJ7_fill_53178_14 rfl (by decide) rfl ?_
      refine g_goto X (tgt := 5) dJ7_fill_53178_17 (by decide) ?_
      exact ih (x2 + 1) (wset w c1 x2.toNat x1) h
noncomputable def ja_fillI (c1 : Nat) (l1 : Nat) (x1 : Int) (w : Wd) : Option (Int × Wd) :=
  (ja_fillI_5 c1 l1 x1 (l1 : Int) FU 0 w)
theorem mc_ja_fillI {lc : Launch} {D : CX} {lay : List Kd} {ad : Nat → Nat} {w : Wd} {c1 l1 : Nat} {x1 : Int} {v : Int × Wd} (hc1 : lay[c1]? = some (.inl (0, l1))) (hc1n : l1 ≤ 2147483647) (h : ja_fillI c1 l1 x1 w = some v) : Mc lc yJ7_fill_53178 cJ7_fill_53178 4 none rmJ7_fill_53178 D lay ad [.ref (ad c1), iv x1] w none v.2 0 0 := by
  refine mc_of (by decide) (Nat.le_of_ble_eq_true rfl) ?_
  intro κ X Z
  show G κ D lay ad 0 0 w 0 [(0, .ref (ad c1)), (1, iv x1)] []
  unfold ja_fillI at h
  refine g_iconst X dJ7_fill_53178_0 ?_
  refine g_istore_n X [1, 2, 0] (ls1 := [(0, .ref (ad c1)), (1, iv x1), (2, iv 0)]) dJ7_fill_53178_1 rfl (by decide) rfl ?_
  refine g_aload_n X 0 dJ7_fill_53178_2 rfl rfl ?_
  refine g_alen X (c := c1) (n := l1) (t := 0) (l1 : Int) hc1 (by decide) (ofNat_iN _) dJ7_fill_53178_3 ?_
  refine g_istore_n X [1, 2, 3, 0] (ls1 := [(0, .ref (ad c1)), (1, iv x1), (2, iv 0), (3, iv (l1 : Int))]) dJ7_fill_53178_4 rfl (by decide) rfl ?_
  refine ja_fillI_5_ok X Z hc1 hc1n FU 0 w h

/-! java/lang/Integer.bitCount -/
noncomputable def ji_bitCount (x0 : Int) (w : Wd) : Option (Int × Wd) :=
  some ((band (((band (((band (x0 - (band (bushr x0 1) 1431655765)) 858993459) + (band (bushr (x0 - (band (bushr x0 1) 1431655765)) 2) 858993459)) + (bushr ((band (x0 - (band (bushr x0 1) 1431655765)) 858993459) + (band (bushr (x0 - (band (bushr x0 1) 1431655765)) 2) 858993459)) 4)) 252645135) + (bushr (band (((band (x0 - (band (bushr x0 1) 1431655765)) 858993459) + (band (bushr (x0 - (band (bushr x0 1) 1431655765)) 2) 858993459)) + (bushr ((band (x0 - (band (bushr x0 1) 1431655765)) 858993459) + (band (bushr (x0 - (band (bushr x0 1) 1431655765)) 2) 858993459)) 4)) 252645135) 8)) + (bushr ((band (((band (x0 - (band (bushr x0 1) 1431655765)) 858993459) + (band (bushr (x0 - (band (bushr x0 1) 1431655765)) 2) 858993459)) + (bushr ((band (x0 - (band (bushr x0 1) 1431655765)) 858993459) + (band (bushr (x0 - (band (bushr x0 1) 1431655765)) 2) 858993459)) 4)) 252645135) + (bushr (band (((band (x0 - (band (bushr x0 1) 1431655765)) 858993459) + (band (bushr (x0 - (band (bushr x0 1) 1431655765)) 2) 858993459)) + (bushr ((band (x0 - (band (bushr x0 1) 1431655765)) 858993459) + (band (bushr (x0 - (band (bushr x0 1) 1431655765)) 2) 858993459)) 4)) 252645135) 8)) 16)) 63), w)
theorem mc_ji_bitCount {lc : Launch} {D : CX} {lay : List Kd} {ad : Nat → Nat} {w : Wd} {x0 : Int} {v : Int × Wd} (h : ji_bitCount x0 w = some v) : Mc lc yJ6_bitCount_0f7a4 cJ6_bitCount_0f7a4 1 (some .int) rmJ6_bitCount_0f7a4 D lay ad [iv x0] w (some (iv v.1)) v.2 0 0 := by
  refine mc_of (by decide) (Nat.le_of_ble_eq_true rfl) ?_
  intro κ X Z
  show G κ D lay ad 0 0 w 0 [(0, iv x0)] []
  unfold ji_bitCount at h
  refine g_iload_n X 0 dJ6_bitCount_0f7a4_0 rfl rfl ?_
  refine g_iload_n X 0 dJ6_bitCount_0f7a4_1 rfl rfl ?_
  refine g_iconst X dJ6_bitCount_0f7a4_2 ?_
  refine g_iushr X dJ6_bitCount_0f7a4_3 ?_
  refine g_ldcw X 1431655765 dJ6_bitCount_0f7a4_4 wk_J6_265 ?_
  refine g_iand X dJ6_bitCount_0f7a4_7 ?_
  refine g_isub X dJ6_bitCount_0f7a4_8 ?_
  refine g_istore_n X [0] (ls1 := [(0, iv (x0 - (band (bushr x0 1) 1431655765)))]) dJ6_bitCount_0f7a4_9 rfl (by decide) rfl ?_
  refine g_iload_n X 0 dJ6_bitCount_0f7a4_10 rfl rfl ?_
  refine g_ldcw X 858993459 dJ6_bitCount_0f7a4_11 wk_J6_266 ?_
  refine g_iand X dJ6_bitCount_0f7a4_14 ?_
  refine g_iload_n X 0 dJ6_bitCount_0f7a4_15 rfl rfl ?_
  refine g_iconst X dJ6_bitCount_0f7a4_16 ?_
  refine g_iushr X dJ6_bitCount_0f7a4_17 ?_
  refine g_ldcw X 858993459 dJ6_bitCount_0f7a4_18 wk_J6_266 ?_
  refine g_iand X dJ6_bitCount_0f7a4_21 ?_
  refine g_iadd X dJ6_bitCount_0f7a4_22 ?_
  refine g_istore_n X [0] (ls1 := [(0, iv ((band (x0 - (band (bushr x0 1) 1431655765)) 858993459) + (band (bushr (x0 - (band (bushr x0 1) 1431655765)) 2) 858993459)))]) dJ6_bitCount_0f7a4_23 rfl (by decide) rfl ?_
  refine g_iload_n X 0 dJ6_bitCount_0f7a4_24 rfl rfl ?_
  refine g_iload_n X 0 dJ6_bitCount_0f7a4_25 rfl rfl ?_
  refine g_iconst X dJ6_bitCount_0f7a4_26 ?_
  refine g_iushr X dJ6_bitCount_0f7a4_27 ?_
  refine g_iadd X dJ6_bitCount_0f7a4_28 ?_
  refine g_ldcw X 252645135 dJ6_bitCount_0f7a4_29 wk_J6_267 ?_
  refine g_iand X dJ6_bitCount_0f7a4_32 ?_
  refine g_istore_n X [0] (ls1 := [(0, iv (band (((band (x0 - (band (bushr x0 1) 1431655765)) 858993459) + (band (bushr (x0 - (band (bushr x0 1) 1431655765)) 2) 858993459)) + (bushr ((band (x0 - (band (bushr x0 1) 1431655765)) 858993459) + (band (bushr (x0 - (band (bushr x0 1) 1431655765)) 2) 858993459)) 4)) 252645135))]) dJ6_bitCount_0f7a4_33 rfl (by decide) rfl ?_
  refine g_iload_n X 0 dJ6_bitCount_0f7a4_34 rfl rfl ?_
  refine g_iload_n X 0 dJ6_bitCount_0f7a4_35 rfl rfl ?_
  refine g_bipush X 8 dJ6_bitCount_0f7a4_36 (by decide) ?_
  refine g_iushr X dJ6_bitCount_0f7a4_38 ?_
  refine g_iadd X dJ6_bitCount_0f7a4_39 ?_
  refine g_istore_n X [0] (ls1 := [(0, iv ((band (((band (x0 - (band (bushr x0 1) 1431655765)) 858993459) + (band (bushr (x0 - (band (bushr x0 1) 1431655765)) 2) 858993459)) + (bushr ((band (x0 - (band (bushr x0 1) 1431655765)) 858993459) + (band (bushr (x0 - (band (bushr x0 1) 1431655765)) 2) 858993459)) 4)) 252645135) + (bushr (band (((band (x0 - (band (bushr x0 1) 1431655765)) 858993459) + (band (bushr (x0 - (band (bushr x0 1) 1431655765)) 2) 858993459)) + (bushr ((band (x0 - (band (bushr x0 1) 1431655765)) 858993459) + (band (bushr (x0 - (band (bushr x0 1) 1431655765)) 2) 858993459)) 4)) 252645135) 8)))]) dJ6_bitCount_0f7a4_40 rfl (by decide) rfl ?_
  refine g_iload_n X 0 dJ6_bitCount_0f7a4_41 rfl rfl ?_
  refine g_iload_n X 0 dJ6_bitCount_0f7a4_42 rfl rfl ?_
  refine g_bipush X 16 dJ6_bitCount_0f7a4_43 (by decide) ?_
  refine g_iushr X dJ6_bitCount_0f7a4_45 ?_
  refine g_iadd X dJ6_bitCount_0f7a4_46 ?_
  refine g_istore_n X [0] (ls1 := [(0, iv (((band (((band (x0 - (band (bushr x0 1) 1431655765)) 858993459) + (band (bushr (x0 - (band (bushr x0 1) 1431655765)) 2) 858993459)) + (bushr ((band (x0 - (band (bushr x0 1) 1431655765)) 858993459) + (band (bushr (x0 - (band (bushr x0 1) 1431655765)) 2) 858993459)) 4)) 252645135) + (bushr (band (((band (x0 - (band (bushr x0 1) 1431655765)) 858993459) + (band (bushr (x0 - (band (bushr x0 1) 1431655765)) 2) 858993459)) + (bushr ((band (x0 - (band (bushr x0 1) 1431655765)) 858993459) + (band (bushr (x0 - (band (bushr x0 1) 1431655765)) 2) 858993459)) 4)) 252645135) 8)) + (bushr ((band (((band (x0 - (band (bushr x0 1) 1431655765)) 858993459) + (band (bushr (x0 - (band (bushr x0 1) 1431655765)) 2) 858993459)) + (bushr ((band (x0 - (band (bushr x0 1) 1431655765)) 858993459) + (band (bushr (x0 - (band (bushr x0 1) 1431655765)) 2) 858993459)) 4)) 252645135) + (bushr (band (((band (x0 - (band (bushr x0 1) 1431655765)) 858993459) + (band (bushr (x0 - (band (bushr x0 1) 1431655765)) 2) 858993459)) + (bushr ((band (x0 - (band (bushr x0 1) 1431655765)) 858993459) + (band (bushr (x0 - (band (bushr x0 1) 1431655765)) 2) 858993459)) 4)) 252645135) 8)) 16)))]) dJ6_bitCount_0f7a4_47 rfl (by decide) rfl ?_
  refine g_iload_n X 0 dJ6_bitCount_0f7a4_48 rfl rfl ?_
  refine g_bipush X 63 dJ6_bitCount_0f7a4_49 (by decide) ?_
  refine g_iand X dJ6_bitCount_0f7a4_51 ?_
  exact g_iret X Z h dJ6_bitCount_0f7a4_52

/-! java/util/Arrays.fill -/
noncomputable def ja_fillL_6 (c1 : Nat) (l1 : Nat) (x1 x4 : Int) : Nat → Int → Wd → Option (Int × Wd)
  | 0, _, _ => none
  | n + 1, x3, w =>
    (if wr x4 ≤ wr x3 then
      some (0, w)
    else
      (if 0 ≤ x3 ∧ x3 < (l1 : Int) then
      (ja_fillL_6 c1 l1 x1 x4 n (x3 + 1) (wset w c1 x3.toNat x1))
      else none))
theorem ja_fillL_6_ok {lc : Launch} {κ : KX} {D : CX} {lay : List Kd} {ad : Nat → Nat} {c1 l1 : Nat} {x1 x4 : Int} {v : Int × Wd} (X : gX κ D cJ7_fill_d0a16 RJ7 rmJ7_fill_d0a16 lc 5) (Z : gQ κ D lay ad none none v.2 0 0) (hc1 : lay[c1]? = some (.inl (1, l1))) (hc1n : l1 ≤ 2147483647) : ∀ (n : Nat) (x3 : Int) (w : Wd), ja_fillL_6 c1 l1 x1 x4 n x3 w = some v → G κ D lay ad 0 0 w 6 [(0, .ref (ad c1)), (1, jv x1), (3, iv x3), (4, iv x4)] [] := by
  intro n
  induction n with
  | zero =>
    intro x3 w h
    cases h
  | succ n ih =>
    intro x3 w h
    rw [ja_fillL_6] at h
    refine g_iload_n X 2 dJ7_fill_d0a16_6 rfl rfl ?_
    refine g_iload X 3 dJ7_fill_d0a16_7 rfl ?_
    refine g_icmp_ge X h dJ7_fill_d0a16_9 (tgt := 22) (by decide) (fun h => ?_) (fun h => ?_)
    · exact g_vret X Z h dJ7_fill_d0a16_22
    · refine g_aload_n X 0 dJ7_fill_d0a16_12 rfl rfl ?_
      refine g_iload_n X 2 dJ7_fill_d0a16_13 rfl rfl ?_
      refine g_lload_n X 1 dJ7_fill_d0a16_14 rfl rfl ?_
      refine g_last X (n := l1) (c := c1) h hc1 hc1n dJ7_fill_d0a16_15 (fun h => ?_)
      refine g_iinc X 2 [1, 2, 0, 3] (ls1 := [(0, .ref (ad c1)), (1, jv x1), (3, iv (x3 + 1)), (4, iv x4)]) dJ7_fill_d0a16_16 rfl (by decide) rfl ?_
      refine g_goto X (tgt := 6) dJ7_fill_d0a16_19 (by decide) ?_
      exact ih (x3 + 1) (wset w c1 x3.toNat x1) h
noncomputable def ja_fillL (c1 : Nat) (l1 : Nat) (x1 : Int) (w : Wd) : Option (Int × Wd) :=
  (ja_fillL_6 c1 l1 x1 (l1 : Int) FU 0 w)
theorem mc_ja_fillL {lc : Launch} {D : CX} {lay : List Kd} {ad : Nat → Nat} {w : Wd} {c1 l1 : Nat} {x1 : Int} {v : Int × Wd} (hc1 : lay[c1]? = some (.inl (1, l1))) (hc1n : l1 ≤ 2147483647) (h : ja_fillL c1 l1 x1 w = some v) : Mc lc yJ7_fill_d0a16 cJ7_fill_d0a16 5 none rmJ7_fill_d0a16 D lay ad [.ref (ad c1), jv x1] w none v.2 0 0 := by
  refine mc_of (by decide) (Nat.le_of_ble_eq_true rfl) ?_
  intro κ X Z
  show G κ D lay ad 0 0 w 0 [(0, .ref (ad c1)), (1, jv x1)] []
  unfold ja_fillL at h
  refine g_iconst X dJ7_fill_d0a16_0 ?_
  refine g_istore_n X [1, 2, 0] (ls1 := [(0, .ref (ad c1)), (1, jv x1), (3, iv 0)]) dJ7_fill_d0a16_1 rfl (by decide) rfl ?_
  refine g_aload_n X 0 dJ7_fill_d0a16_2 rfl rfl ?_
  refine g_alen X (c := c1) (n := l1) (t := 1) (l1 : Int) hc1 (by decide) (ofNat_iN _) dJ7_fill_d0a16_3 ?_
  refine g_istore X [1, 2, 3, 0] (ls1 := [(0, .ref (ad c1)), (1, jv x1), (3, iv 0), (4, iv (l1 : Int))]) dJ7_fill_d0a16_4 (by decide) rfl ?_
  refine ja_fillL_6_ok X Z hc1 hc1n FU 0 w h


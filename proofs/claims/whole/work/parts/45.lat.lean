/-! The law's own at: 0 and the berth in its row, or 1. -/
abbrev rmL : Room := { frames := 7, cells := 1, slots := 6, locals := 120 }
abbrev hhL : List (Nat × Nat × Nat × Nat) := [(0, 9, 12, 13)]
theorem w_Lat : Cond.codeWith yL_at cL_at 4 (some .int) hhL ∈ Wu := wq 467 (by decide +kernel) (by decide +kernel)
theorem w_Lnse : Cond.classLink RL 13 nse ∈ Wu := wq 468 (by decide +kernel) (by decide +kernel)
theorem mc_l_at {lc : Launch} {D : CX} {ad : Nat → Nat} {w w' : Wd} {a r : Int} {sa : Nat} (hlt : lc.stackTraces = false) (ra : R32 a) (hO : OK w)
    (h : (isS w a = true ∧ r = 0 ∧ w' = wset w 40 0 (w 14 a.toNat)) ∨ (isS w a = false ∧ r = 1 ∧ w' = w)) (sz : Nat) :
    Met lc yL_at (Cond.codeWith yL_at cL_at 4 (some .int) hhL :: Wu) rmL (PmE (Et sa) D LAY ad [.ref (ad 0), iv a, .ref (ad 40)] w sz) (Qm D LAY ad (some (iv r)) w' sz) 1 6 (aF ad 41 sz) := by
  have hN := hO.1
  refine va_MetW (cc := cL_at) (maxL := 4) (ret := some .int) (hh := hhL) (by decide) rfl ?_
  intro p e s m args below meth c s₁ B hml hv
  obtain ⟨⟨rfl, hsz, hP, hK, hD⟩, hE⟩ := hv
  have hts0 := atoms_spec (ws := Cond.codeWith yL_at cL_at 4 (some .int) hhL :: Wu) B.pre
  have hts : ∀ w ∈ Wu, w.before [Value.ref (ad 0), iv a, .ref (ad 40)].toArray s = true := fun w hw => hts0 w (List.mem_cons_of_mem _ hw)
  have htab := vx_table (x := yL_at) B (hts0 _ List.mem_cons_self)
  have hown : s.vm.findClass RL = some m.cls := findClass_of_methodNamed B.named
  have hl := lv_entry [Value.ref (ad 0), iv a, .ref (ad 40)] (n := 4) (Nat.le_of_ble_eq_true rfl)
  rw [lg_entry_eq]
  generalize (lg_sl [Value.ref (ad 0), iv a, .ref (ad 40)] ++ List.replicate (4 - (lg_sl [Value.ref (ad 0), iv a, .ref (ad 40)]).length) Slot.unset).toArray = la at hl ⊢
  have hE : Et sa (aF ad 41 sz) s s.heap := hE
  have hA : ∀ q, s.heap.size ≤ q → aF ad 41 sz q := fun q h => Or.inr (by rw [← hsz]; exact h)
  have X : gX (p, lc, e, rmL, s, m, [Value.ref (ad 0), iv a, .ref (ad 40)].toArray, below, meth, c, MQ below (Qm D LAY ad (some (iv r)) w' sz) [Value.ref (ad 0), iv a, .ref (ad 40)].toArray s 1 6 (aF ad 41 sz), aF ad 41 sz, s.heap, 4) D cL_at RL rmL lc 4 :=
    ⟨B.exec, B.bytes, hml, hown, hts, hK, B.notSynchronized, hA, rfl, rfl, rfl⟩
  have Z : gQ (p, lc, e, rmL, s, m, [Value.ref (ad 0), iv a, .ref (ad 40)].toArray, below, meth, c, MQ below (Qm D LAY ad (some (iv r)) w' sz) [Value.ref (ad 0), iv a, .ref (ad 40)].toArray s 1 6 (aF ad 41 sz), aF ad 41 sz, s.heap, 4) D LAY ad (some .int) (some (iv r)) w' 1 6 := ⟨sz, B.returns, rfl, rfl, rfl⟩
  have key : G (p, lc, e, rmL, s, m, [Value.ref (ad 0), iv a, .ref (ad 40)].toArray, below, meth, c, MQ below (Qm D LAY ad (some (iv r)) w' sz) [Value.ref (ad 0), iv a, .ref (ad 40)].toArray s 1 6 (aF ad 41 sz), aF ad 41 sz, s.heap, 4) D LAY ad 0 0 w 0 [(0, .ref (ad 0)), (1, iv a), (2, .ref (ad 40))] [] := by
    refine g_aload_n X 2 dL_at_0 rfl rfl ?_
    refine g_iconst X dL_at_1 ?_
    refine g_aload_n X 0 dL_at_2 rfl rfl ?_
    refine g_iload_n X 1 dL_at_3 rfl rfl ?_
    rcases h with ⟨hs, rfl, rfl⟩ | ⟨hs, rfl, rfl⟩
    · have hs2 : 0 ≤ a ∧ a < w 5 0 := of_decide_eq_true hs
      have hb := (hO.2.2.2.2.2.1 a hs2.1 (by omega)).2.2.2.2.2.2.2.2.1
      have hq := hO.2.1
      refine g_callVi X (st := [iv 0, .ref (ad 40)]) 0 [iv a] (mc_x_at ra hN hs) cal_X3_at rfl rfl wm_L_7 (by decide) rfl rfl ⟨by decide, by decide⟩ rfl (Nat.le_of_ble_eq_true rfl) dL_at_4 ?_
      refine g_i2l X dL_at_7 ?_
      rw [wr_id (by omega) (by omega)]
      refine g_lastC X 0 (n := 1) (c := 40) rfl (by decide) rfl (by decide) dL_at_8 ?_
      refine g_goto X (tgt := 15) dL_at_9 (by decide) ?_
      refine g_wide (k := 1) (n := 6) (by decide) (by decide) ?_
      refine g_iconst X dL_at_15 ?_
      exact g_iret X (x := 0) (v := (0, wset w 40 0 (w 14 a.toNat))) Z rfl dL_at_16
    · have hand : ∀ q : Nat, G (p, lc, e, rmL, s, m, [Value.ref (ad 0), iv a, .ref (ad 40)].toArray, below, meth, c, MQ below (Qm D LAY ad (some (iv 1)) w' sz) [Value.ref (ad 0), iv a, .ref (ad 40)].toArray s 1 6 (aF ad 41 sz), aF ad 41 sz, s.heap, 4) D LAY ad 1 6 w' 12 [(0, .ref (ad 0)), (1, iv a), (2, .ref (ad 40))] [.ref q] := fun q => by
        refine g_astore_n X [1, 2, 3] (ls1 := [(0, .ref (ad 0)), (1, iv a), (2, .ref (ad 40))]) dL_at_12 rfl (by decide) rfl ?_
        refine g_iconst X dL_at_13 ?_
        exact g_iret X (x := 1) (v := (1, w')) Z rfl dL_at_14
      intro H locs la hP hD hS hl T hT XT
      obtain ⟨v1, v2, v3, v4, v5⟩ := cal_X3_at
      have hc0 : LAY[0]? = some (.inr (3, [some (some 1), some (some 5), some (some 16), some (some 22), some (some 23), some (some 24), some (some 25)])) := rfl
      have hci : vwCl[3]? = some (yX3_at.cls, TX3, 7) := rfl
      have hr := vx_runV (As := [iv a]) (rest := [iv 0, .ref (ad 40)]) (g := F0 m 4 la [iv a, .ref (ad 0), iv 0, .ref (ad 40)]) (locs := locs) (below := below) (meth := meth) (e := e) (cells := 0) (slots := 0) (R := rmL) ⟨B.exec, B.bytes, hml, hown, hts⟩ (vm_x_at hlt ra hN hs H.size) ⟨callB_of 1 hts (wu_good _ _ _ _ v4) rfl rfl rfl (hts _ v3) (hts _ wm_L_7) v5 (by decide), hts _ v1, hts _ v2⟩
        ⟨PmE_blind (Et_ok sa), va_recv hK hP hci (cws_at0 hc0), fun U hU hW => ⟨⟨rfl, by rw [hU], by rw [hU]; exact hP, va_K.moved hW.alike hK, hD.weaken (fun _ _ _ _ => trivial)⟩, E_at (lay := LAY) (Et_ok sa) hE hS hA hD hU hW⟩⟩ rfl rfl hl.1 rfl (lv_room (Nat.le_of_ble_eq_true rfl)) dL_at_4 ⟨by decide, by decide⟩
      rcases hr T hT XT with ⟨v, st0, t, T', L, h0, X', hL, e1, e2, hF, st⟩ | ⟨q, st0, t, T', L, E, ce, h0, X', hL, e1, e2, ⟨rfl, hP1, hz, hk⟩, hce, hcv, hcl, st⟩
      · exact hF.elim
      · rw [h0] at hz hk
        have hF := cws_A (lay := LAY) hD hS hA
        obtain ⟨t2, a1, b1⟩ := vy_catch (pc := 4) (rest := [iv 0, .ref (ad 40)]) (H := T'.heap) (name := nse) (E := nse) hown { startPc := 0, endPc := 9, handlerPc := 12, catchType := 13 } [] htab (by decide) (by decide) (hts _ w_Lnse) (va_Nw.use rfl hE.1.2.2.2.2) (by rw [e1]; exact hce) hcv hcl
          (hand q T'.heap (locs ++ L) la (by rw [e1]; exact hP1) hD ⟨Nat.le_trans hS.1 (by rw [e1]; exact hz), fun q h1 h2 => by rw [e1, hk q (Nat.lt_of_lt_of_le h1 hS.1) (fun z => h2 (hF q z))]; exact hS.2.1 q h1 h2, fun q hq => by
            rcases List.mem_append.mp hq with h | h
            · exact hS.2.2 q h
            · exact hF _ (hL q h)⟩ hl) T' rfl X'
        exact ⟨t2, st.trans a1, b1⟩
  exact key s.heap [] la hP ⟨hD.1, fun k q hq => by
      obtain ⟨h1, h2⟩ := cws_in hq
      exact Or.inl ⟨k, h1, by rw [h2, Nat.zero_add]⟩⟩ va_S.rf hl

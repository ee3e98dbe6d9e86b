/-! TallShips.at: it returns the berth, or throws. -/
abbrev rmAt : Room := { frames := 6, cells := 1, slots := 6, locals := 90 }
theorem mc_x_at {lc : Launch} {D : CX} {ad : Nat → Nat} {w : Wd} {a : Int} (ra : R32 a) (hN : 0 ≤ w 5 0 ∧ w 5 0 ≤ 7) (hs : isS w a = true) : Mc lc yX3_at cX3_at 2 (some .int) rmX3_at D LAY ad [.ref (ad 0), iv a] w (some (iv (w 14 a.toNat))) w 0 0 := by
  refine mc_of (by decide) (Nat.le_of_ble_eq_true rfl) ?_
  intro κ X Z
  show G κ D LAY ad 0 0 w 0 [(0, .ref (ad 0)), (1, iv a)] []
  have hs2 : 0 ≤ a ∧ a < w 5 0 := of_decide_eq_true hs
  refine g_aload_n X 0 dX3_at_0 rfl rfl ?_
  refine gf_X3_19 X dX3_at_1 ?_
  refine g_iload_n X 1 dX3_at_4 rfl rfl ?_
  refine g_callVi X (st := []) 5 [iv a] (mc_fl_has (p_has ra hN)) cal_X0_has rfl rfl wm_X3_108 (by decide) rfl rfl ⟨by decide, by decide⟩ rfl (Nat.le_of_ble_eq_true rfl) dX3_at_5 ?_
  rw [hs]
  refine g_if_ne X (Y := some ()) (Z := none) (v := ()) rfl dX3_at_8 (tgt := 21) (by decide) (fun _ => ?_) (fun h => by cases h)
  refine g_aload_n X 0 dX3_at_21 rfl rfl ?_
  refine gf_X3_19 X dX3_at_22 ?_
  refine gf_X3_142 X dX3_at_25 ?_
  refine g_iload_n X 1 dX3_at_28 rfl rfl ?_
  refine g_iald X (n := 7) (c := 14) (Z := some ()) (v := ()) (if_pos (by omega)) rfl (by decide) dX3_at_29 (fun _ => ?_)
  exact g_iret X (x := w 14 a.toNat) (v := (w 14 a.toNat, w)) Z rfl dX3_at_30
theorem vm_x_at {lc : Launch} {D : CX} {ad : Nat → Nat} {w : Wd} {a : Int} {sa : Nat} (hlt : lc.stackTraces = false) (ra : R32 a) (hN : 0 ≤ w 5 0 ∧ w 5 0 ≤ 7) (hs : isS w a = false) (sz : Nat) :
    vx_Met lc yX3_at (Cond.code yX3_at cX3_at 2 (some .int) :: Wu) rmAt (PmE (Et sa) D LAY ad [.ref (ad 0), iv a] w sz) (fun _ _ _ _ => False) (fun E st t => E = nse ∧ va_P D.1 vwCl (cws D ad w 0 LAY) t.heap ∧ va_F (aF ad 41 sz) st t) 1 6 (aF ad 41 sz) := by
  refine vx_ofW (cc := cX3_at) (maxL := 2) (ret := some .int) (by decide) rfl ?_
  intro p e s m args below meth c s₁ B hml hno hv
  obtain ⟨⟨rfl, hsz, hP, hK, hD⟩, hE⟩ := hv
  have hts := atoms_spec (ws := Cond.code yX3_at cX3_at 2 (some .int) :: Wu) B.pre
  have hl := lv_entry [Value.ref (ad 0), iv a] (n := 2) (Nat.le_of_ble_eq_true rfl)
  rw [lg_entry_eq]
  generalize (lg_sl [Value.ref (ad 0), iv a] ++ List.replicate (2 - (lg_sl [Value.ref (ad 0), iv a]).length) Slot.unset).toArray = la at hl ⊢
  have hE : Et sa (aF ad 41 sz) s s.heap := hE
  have X : gX (p, lc, e, rmAt, s, m, [Value.ref (ad 0), iv a].toArray, below, meth, c, vx_MQ below (fun _ _ _ _ => False) (fun E st t => E = nse ∧ va_P D.1 vwCl (cws D ad w 0 LAY) t.heap ∧ va_F (aF ad 41 sz) st t) [Value.ref (ad 0), iv a].toArray s 1 6 (aF ad 41 sz), aF ad 41 sz, s.heap, 2) D cX3_at RX3 rmAt lc 2 :=
    ⟨B.exec, B.bytes, hml, findClass_of_methodNamed B.named, fun w hw => hts w (List.mem_cons_of_mem _ hw), hK, B.notSynchronized, fun q h => Or.inr (by rw [← hsz]; exact h), rfl, rfl, rfl⟩
  have key : G (p, lc, e, rmAt, s, m, [Value.ref (ad 0), iv a].toArray, below, meth, c, vx_MQ below (fun _ _ _ _ => False) (fun E st t => E = nse ∧ va_P D.1 vwCl (cws D ad w 0 LAY) t.heap ∧ va_F (aF ad 41 sz) st t) [Value.ref (ad 0), iv a].toArray s 1 6 (aF ad 41 sz), aF ad 41 sz, s.heap, 2) D LAY ad 0 0 w 0 [(0, .ref (ad 0)), (1, iv a)] [] := by
    refine g_aload_n X 0 dX3_at_0 rfl rfl ?_
    refine gf_X3_19 X dX3_at_1 ?_
    refine g_iload_n X 1 dX3_at_4 rfl rfl ?_
    refine g_callVi X (st := []) 5 [iv a] (mc_fl_has (p_has ra hN)) cal_X0_has rfl rfl wm_X3_108 (by decide) rfl rfl ⟨by decide, by decide⟩ rfl (Nat.le_of_ble_eq_true rfl) dX3_at_5 ?_
    rw [hs]
    refine g_if_ne X (Y := none) (Z := some ()) (v := ()) rfl dX3_at_8 (tgt := 21) (by decide) (fun h => by cases h) (fun _ => ?_)
    intro H locs la hP hD hS hl
    exact vy_throw B.exec B.bytes hlt (findClass_of_methodNamed B.named) (fun w hw => hts w (List.mem_cons_of_mem _ hw)) (Et_X hE) hE.1.1 hE.2.1 hE.2.2 hS (hl.1.trans hml.symm) dX3_at_11 dX3_at_14 dX3_at_15 dX3_at_17 dX3_at_20
      (fun x hx => (hno x hx).elim) (by decide) (by decide) (by decide) (by decide) B.notSynchronized
      (fun t hv hz hq => ⟨rfl, hP.kept (fun k x hx => hq x.1 (hP k x hx).lt), Nat.le_trans hS.1 hz, fun q h1 h2 => (hq q (Nat.lt_of_lt_of_le h1 hS.1)).trans (hS.2.1 q h1 h2)⟩) hS.2.2 (by decide) (by decide)
  exact key s.heap [] la hP ⟨hD.1, fun k q hq => by
      obtain ⟨h1, h2⟩ := cws_in hq
      exact Or.inl ⟨k, h1, by rw [h2, Nat.zero_add]⟩⟩ va_S.rf hl

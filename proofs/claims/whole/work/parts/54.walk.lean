/-! whole_start. -/
theorem start_K {s : State} {args : Array Value} (htu : ∀ w ∈ Wu, w.before args s = true) : ∃ D : CX, va_K D.1 vwCl (tyl D) s := by
  obtain ⟨c0, i0, k0⟩ := u_known (C := RX0) (T := TX0) (N := 11) (n := 11) htu inX0 (htu (.instantiable RX0 11) (wq 91 (by decide +kernel) (by decide +kernel)))
  obtain ⟨c1, i1, k1⟩ := u_known (C := RX1) (T := TX1) (N := 6) (n := 6) htu inX1 (htu (.instantiable RX1 6) (wq 143 (by decide +kernel) (by decide +kernel)))
  obtain ⟨c2, i2, k2⟩ := u_known (C := RX2) (T := TX2) (N := 3) (n := 3) htu inX2 (htu (.instantiable RX2 3) (wq 68 (by decide +kernel) (by decide +kernel)))
  obtain ⟨c3, i3, k3⟩ := u_known (C := RX3) (T := TX3) (N := 7) (n := 7) htu inX3 (htu (.instantiable RX3 7) (wq 60 (by decide +kernel) (by decide +kernel)))
  obtain ⟨c4, i4, k4⟩ := u_known (C := RX4) (T := TX4) (N := 16) (n := 16) htu inX4 (htu (.instantiable RX4 16) (wq 540 (by decide +kernel) (by decide +kernel)))
  obtain ⟨cI, aI, fI⟩ := arr_known (htu _ w_ai)
  obtain ⟨cL, aL, fL⟩ := arr_known (htu _ w_al)
  obtain ⟨cZ, aZ, fZ⟩ := arr_known (htu _ w_az)
  refine ⟨((fun k => if k = 0 then c0 else if k = 1 then c1 else if k = 2 then c2 else if k = 3 then c3 else c4, fun k => if k = 0 then i0 else if k = 1 then i1 else if k = 2 then i2 else if k = 3 then i3 else i4), cI, cL, cZ), fun k q hq => ?_, fun k q hq => ?_⟩
  · match k, hq with
    | 0, hq => cases hq; exact k0
    | 1, hq => cases hq; exact k1
    | 2, hq => cases hq; exact k2
    | 3, hq => cases hq; exact k3
    | 4, hq => cases hq; exact k4
    | k + 5, hq => simp at hq
  · match k, hq with
    | 0, hq => cases hq; exact ⟨aI, fI⟩
    | 1, hq => cases hq; exact ⟨aL, fL⟩
    | 2, hq => cases hq; exact ⟨aZ, fZ⟩
    | k + 3, hq => simp [tyl] at hq
set_option maxHeartbeats 1000000 in
theorem whole_start {p : Program} {e : Env} {s : State} {m : MethodId} {below : List Frame} {meth : Method} {c : Code} (l : Launch) (hlt : l.stackTraces = false) {b L : Nat} {xs : Nat → Int32} (hL : L ≤ 4096) (C0 : lw_At p s m meth c b L xs) : W p l e room_1 s m #[Value.ref b] below meth c s.heap [] 0 0 (lw_Z below #[Value.ref b] s) (entryFrame m ([Value.ref b] : List Value).toArray 7) := by
  obtain ⟨hx, hb, hr, hml, hown, hts, hX, hbl, hlocks, hgv⟩ := id C0
  have htu : ∀ w ∈ Wu, w.before #[Value.ref b] s = true := fun w hw => hts w (wu_in w hw)
  obtain ⟨D, hK⟩ := start_K htu
  obtain ⟨t, hEz⟩ := start_Ez hts hgv
  obtain ⟨sa, hEt⟩ := start_Et hts hgv
  have X : gX (p, l, e, room_1, s, m, #[Value.ref b], below, meth, c, lw_Z below #[Value.ref b] s, (fun q : Nat => s.heap.size ≤ q), s.heap, 7) D cL_law RL room_1 l 7 := ⟨hx, hb, hml, hown, htu, hK, hlocks, fun q h => h, rfl, rfl, rfl⟩
  have S : gS (p, l, e, room_1, s, m, #[Value.ref b], below, meth, c, lw_Z below #[Value.ref b] s, (fun q : Nat => s.heap.size ≤ q), s.heap, 7) b L xs := ⟨hX, hbl, Nat.not_le.mpr hbl⟩
  have E1 : gE (p, l, e, room_1, s, m, #[Value.ref b], below, meth, c, lw_Z below #[Value.ref b] s, (fun q : Nat => s.heap.size ≤ q), s.heap, 7) (Ez t) := ⟨hEz, rfl⟩
  have E2 : gE (p, l, e, room_1, s, m, #[Value.ref b], below, meth, c, lw_Z below #[Value.ref b] s, (fun q : Nat => s.heap.size ≤ q), s.heap, 7) (Et sa) := ⟨hEt, rfl⟩
  have fin : ∀ (ad : Nat → Nat) (n1 n2 : Nat) (w : Wd) (i : Int), n1 ≤ 601024 → n2 ≤ 7293034 → G (p, l, e, room_1, s, m, #[Value.ref b], below, meth, c, lw_Z below #[Value.ref b] s, (fun q : Nat => s.heap.size ≤ q), s.heap, 7) D LAY ad n1 n2 w 954 [(0, .ref b), (1, .ref (ad 0)), (2, .ref (ad 26)), (3, .ref (ad 40)), (4, iv i)] [] := fun ad n1 n2 w i h1 h2 => by
    refine g_iconst X dL_law_954 ?_
    intro H locs la hP hD hS hl
    exact va_forget (fun q hq => hS.2.2 q hq) (W.widen h1 h2 (lw_ret hx hb hr hlocks dL_law_955))
  generalize hκ : (p, l, e, room_1, s, m, #[Value.ref b], below, meth, c, lw_Z below #[Value.ref b] s, (fun q : Nat => s.heap.size ≤ q), s.heap, 7) = κ at X S E1 E2 fin
  have key : G κ D [] (fun _ => 0) 0 0 (fun _ _ => 0) 0 [(0, .ref b)] [] := by
    refine g_new X (C := RX3) (T := TX3) (N := 7) (ci := 3) (M := 0) (vs := [.null, .null, .null, .null, .null, .null, .null]) (fs := [none, none, none, none, none, none, none]) (lay' := [.inr (3, [none, none, none, none, none, none, none])]) tyX3 tyX3_ok inX3 (wq 59 (by decide +kernel) (by decide +kernel)) (wq 60 (by decide +kernel) (by decide +kernel)) (by decide +kernel) rfl (by decide) (fun _ => rfl) rfl rfl rfl (by decide) (by decide) dL_law_0 ?_
    intro ad1 had1
    refine g_dup X dL_law_3 rfl ?_
    refine g_callN X (st := [.ref (ad1 0)]) (lay' := LAY26) 0 [] mn_X3 cI_X3 wm_L_15 (by decide) rfl rfl ⟨by decide, by decide⟩ rfl (Nat.le_of_ble_eq_true rfl) dL_law_4 ?_
    intro ad2 had2
    rw [← had2 0 (by decide)]
    refine g_astore_n X [1, 0] (ls1 := [(0, .ref b), (1, .ref (ad2 0))]) dL_law_7 rfl (by decide) rfl ?_
    refine g_new X (C := RX4) (T := TX4) (N := 16) (ci := 4) (M := 26) (vs := [.null, .null, .null, .null, .int 0, .null, .int 0, .null, .null, .null, .int 0, .null, .null, .null, .null, .null]) (fs := [none, none, none, none, some none, none, some none, none, none, none, some none, none, none, none, none, none]) (lay' := LAY26M) tyX4 tyX4_ok inX4 (wq 539 (by decide +kernel) (by decide +kernel)) (wq 540 (by decide +kernel) (by decide +kernel)) (by decide +kernel) rfl (by decide) (fun _ => rfl) rfl rfl rfl (by decide) (by decide) dL_law_8 ?_
    intro ad3 had3
    rw [← had3 0 (by decide)]
    refine g_dup X dL_law_11 rfl ?_
    refine g_callN X (st := [.ref (ad3 26)]) (lay' := LAY40) 26 [] mn_X4 cI_X4 wm_L_18 (by decide) rfl rfl ⟨by decide, by decide⟩ rfl (Nat.le_of_ble_eq_true rfl) dL_law_12 ?_
    intro ad4 had4
    rw [← had4 0 (by decide), ← had4 26 (by decide)]
    refine g_astore_n X [1, 2, 0] (ls1 := [(0, .ref b), (1, .ref (ad4 0)), (2, .ref (ad4 26))]) dL_law_15 rfl (by decide) rfl ?_
    refine g_iconst X dL_law_16 ?_
    refine g_newl X (N := 1) (M := 40) (lay' := LAY) rfl rfl rfl (by decide) (by decide) (by decide) (by decide) dL_law_17 ?_
    intro ad5 had5
    rw [← had5 0 (by decide), ← had5 26 (by decide)]
    refine g_astore_n X [1, 2, 3, 0] (ls1 := [(0, .ref b), (1, .ref (ad5 0)), (2, .ref (ad5 26)), (3, .ref (ad5 40))]) dL_law_19 rfl (by decide) rfl ?_
    refine g_iconst X dL_law_20 ?_
    refine g_istore X [1, 2, 3, 4, 0] (ls1 := [(0, .ref b), (1, .ref (ad5 0)), (2, .ref (ad5 26)), (3, .ref (ad5 40)), (4, iv 0)]) dL_law_21 (by decide) rfl ?_
    exact law_loop hlt X S hL E1 E2 (fin ad5) 512 _ _ _ 0 (by omega) (by omega) (by omega) (Rel_first (fun _ _ => 0)) (by decide) (by decide)
  subst hκ
  have hl := lv_entry [Value.ref b] (n := 7) (Nat.le_of_ble_eq_true rfl)
  rw [lg_entry_eq]
  generalize (lg_sl [Value.ref b] ++ List.replicate (7 - (lg_sl [Value.ref b]).length) Slot.unset).toArray = la at hl ⊢
  exact key s.heap [] la (fun k q h => by simp [cws] at h) ⟨fun i j p q h => by simp [cws] at h, fun k q h => by simp [cws] at h⟩ va_S.rf hl

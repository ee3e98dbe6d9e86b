/-! The law's case of at. -/
theorem bcmp_self (a : Int) : bcmp a a = 0 := by
  unfold bcmp lg_cmp
  simp
theorem w_Li : Cond.initialized RL ∈ Wu := by decide +kernel
theorem lc_11 {κ : KX} {D : CX} {ad : Nat → Nat} {n1 n2 : Nat} {w : Wd} {lc : Launch} {b N sa : Nat} {xs : Nat → Int32} {i : Int} (hlt : lc.stackTraces = false) (X : gX κ D cL_law RL room_1 lc 7) (S : gS κ b N xs) (hi : 0 ≤ i ∧ i + 8 ≤ (N : Int)) (hN : N ≤ 4096) (hR : Rel w) (hf : n1 + 1 ≤ 601024 ∧ n2 + 7 ≤ 7293034) (E : gE κ (Et sa)) (k : ∀ w', Rel w' → G κ D LAY ad (n1 + 1) (n2 + 7) w' 948 [(0, .ref b), (1, .ref (ad 0)), (2, .ref (ad 26)), (3, .ref (ad 40)), (4, iv i)] []) : G κ D LAY ad n1 n2 w 703 [(0, .ref b), (1, .ref (ad 0)), (2, .ref (ad 26)), (3, .ref (ad 40)), (4, iv i)] [] := by
  obtain ⟨r, q, w1, w2, h1, hm, ht, h0, hb, hR2⟩ := a_at hR (sx_R xs (i + 1))
  have hr : r = 0 ∨ r = 1 := by
    rcases h1 with h | h
    · exact Or.inl h.2.1
    · exact Or.inr h.2.1
  refine g_aload_n X 1 dL_law_703 rfl rfl ?_
  refine g_aload_n X 0 dL_law_704 rfl rfl ?_
  refine g_iload X 4 dL_law_705 rfl ?_
  refine g_iconst X dL_law_707 ?_
  refine g_iadd X dL_law_708 ?_
  refine g_sld X S (by omega) hN dL_law_709 ?_
  refine g_aload_n X 3 dL_law_710 rfl rfl ?_
  refine g_callL X E w_Li (fun sz => mc_l_at hlt (sx_R xs (i + 1)) hR.1 h1 sz) (by decide) ⟨hf.1, by have := hf.2; show n2 + 6 ≤ 7293034; omega⟩ (Nat.le_of_ble_eq_true rfl) dL_law_711 ?_
  refine g_istore X [1, 2, 3, 4, 5, 0] (ls1 := [(0, .ref b), (1, .ref (ad 0)), (2, .ref (ad 26)), (3, .ref (ad 40)), (4, iv i), (5, iv r)]) dL_law_714 (by decide) rfl ?_
  refine g_aload_n X 2 dL_law_716 rfl rfl ?_
  refine g_aload_n X 0 dL_law_717 rfl rfl ?_
  refine g_iload X 4 dL_law_718 rfl ?_
  refine g_iconst X dL_law_720 ?_
  refine g_iadd X dL_law_721 ?_
  refine g_sld X S (by omega) hN dL_law_722 ?_
  refine g_callVi X (st := []) 26 [iv (sx xs (i + 1))] (mc_m_at hm) cal_X4_at rfl rfl wm_L_75 (by decide) rfl rfl ⟨hf.1, by have := hf.2; show n2 + 6 ≤ 7293034; omega⟩ rfl (Nat.le_of_ble_eq_true rfl) dL_law_723 ?_
  refine g_istore X [1, 2, 3, 4, 5, 6, 0] (ls1 := [(0, .ref b), (1, .ref (ad 0)), (2, .ref (ad 26)), (3, .ref (ad 40)), (4, iv i), (5, iv r), (6, iv q)]) dL_law_726 (by decide) rfl ?_
  refine g_aload_n X 2 dL_law_728 rfl rfl ?_
  refine g_callVi X (st := []) 26 [] (mc_m_thrown (v := (w2 26 10, w2)) rfl) cal_X4_thrown rfl rfl wm_L_76 (by decide) rfl rfl ⟨hf.1, by have := hf.2; show n2 + 6 ≤ 7293034; omega⟩ rfl (Nat.le_of_ble_eq_true rfl) dL_law_729 ?_
  refine g_iload X 5 dL_law_732 rfl ?_
  refine g_wide (k := n1 + 1) (n := n2 + 7) (by omega) (by omega) ?_
  refine g_icmp_eq X (Y := some ()) (Z := none) (v := ()) (by rw [ht, if_pos rfl]) dL_law_734 (tgt := 739) (by decide) (fun _ => ?_) (fun h => by cases h)
  refine g_iload X 5 dL_law_739 rfl ?_
  have fin : G κ D LAY ad (n1 + 1) (n2 + 7) w2 756 [(0, .ref b), (1, .ref (ad 0)), (2, .ref (ad 26)), (3, .ref (ad 40)), (4, iv i), (5, iv r), (6, iv q)] [] := by
    refine g_goto X (tgt := 948) dL_law_756 (by decide) ?_
    exact g_sub [0, 1, 2, 3, 4] rfl (k w2 hR2)
  rcases hr with rfl | rfl
  · refine g_if_ne X (Y := none) (Z := some ()) (v := ()) rfl dL_law_741 (tgt := 756) (by decide) (fun h => by cases h) (fun _ => ?_)
    refine g_aload_n X 3 dL_law_744 rfl rfl ?_
    refine g_iconst X dL_law_745 ?_
    refine g_laldC X 0 (n := 1) (c := 40) rfl (by decide) rfl (by decide) dL_law_746 ?_
    refine g_iload X 6 dL_law_747 rfl ?_
    refine g_i2l X dL_law_749 ?_
    dsimp only
    rw [h0 rfl, wr_id (by omega) (by omega)]
    refine g_lcmp X dL_law_750 ?_
    rw [bcmp_self]
    exact g_if_eq X (Y := some ()) (Z := none) (v := ()) rfl dL_law_751 (tgt := 756) (by decide) (fun _ => fin) (fun h => by cases h)
  · exact g_if_ne X (Y := some ()) (Z := none) (v := ()) rfl dL_law_741 (tgt := 756) (by decide) (fun _ => fin) (fun h => by cases h)

/-! The law's loop. (wip/whole/gen/loop.py) -/
theorem law_loop {κ : KX} {D : CX} {ad : Nat → Nat} {lc : Launch} {b N sa t : Nat} {xs : Nat → Int32} (hlt : lc.stackTraces = false) (X : gX κ D cL_law RL room_1 lc 7) (S : gS κ b N xs) (hN : N ≤ 4096) (Ez0 : gE κ (Ez t)) (Et0 : gE κ (Et sa))
    (fin : ∀ (n1 n2 : Nat) (w : Wd) (i : Int), n1 ≤ 601024 → n2 ≤ 7293034 → G κ D LAY ad n1 n2 w 954 [(0, .ref b), (1, .ref (ad 0)), (2, .ref (ad 26)), (3, .ref (ad 40)), (4, iv i)] []) : ∀ (m n1 n2 : Nat) (w : Wd) (i : Int), 0 ≤ i → i ≤ 4096 → (N : Int) < i + 8 * (m : Int) + 8 → Rel w → n1 + m ≤ 601024 → n2 + 7 * m ≤ 7293034 → G κ D LAY ad n1 n2 w 23 [(0, .ref b), (1, .ref (ad 0)), (2, .ref (ad 26)), (3, .ref (ad 40)), (4, iv i)] [] := by
  intro m
  induction m with
  | zero =>
    intro n1 n2 w i i0 i1 him hR h1 h2
    refine g_iload X 4 dL_law_23 rfl ?_
    refine g_aload_n X 0 dL_law_25 rfl rfl ?_
    refine g_slen X S dL_law_26 ?_
    refine g_bipush X 8 dL_law_27 (by decide) ?_
    refine g_isub X dL_law_29 ?_
    exact g_icmp_gt X (Y := some ()) (Z := none) (v := ()) (by rw [wr_id (by omega) (by omega), wr_id (by omega) (by omega), if_pos (by omega)]) dL_law_30 (tgt := 954) (by decide) (fun _ => fin n1 n2 w i (by omega) (by omega)) (fun h => by cases h)
  | succ m ih =>
    intro n1 n2 w i i0 i1 him hR h1 h2
    refine g_iload X 4 dL_law_23 rfl ?_
    refine g_aload_n X 0 dL_law_25 rfl rfl ?_
    refine g_slen X S dL_law_26 ?_
    refine g_bipush X 8 dL_law_27 (by decide) ?_
    refine g_isub X dL_law_29 ?_
    by_cases c : (N : Int) - 8 < i
    · exact g_icmp_gt X (Y := some ()) (Z := none) (v := ()) (by rw [wr_id (by omega) (by omega), wr_id (by omega) (by omega), if_pos (by omega)]) dL_law_30 (tgt := 954) (by decide) (fun _ => fin n1 n2 w i (by omega) (by omega)) (fun h => by cases h)
    refine g_icmp_gt X (Y := none) (Z := some ()) (v := ()) (by rw [wr_id (by omega) (by omega), wr_id (by omega) (by omega), if_neg (by omega)]) dL_law_30 (tgt := 954) (by decide) (fun h => by cases h) (fun _ => ?_)
    have hi : 0 ≤ i ∧ i + 8 ≤ (N : Int) := by omega
    have hf : n1 + 1 ≤ 601024 ∧ n2 + 7 ≤ 7293034 := by omega
    have k : ∀ w' : Wd, Rel w' → G κ D LAY ad (n1 + 1) (n2 + 7) w' 948 [(0, .ref b), (1, .ref (ad 0)), (2, .ref (ad 26)), (3, .ref (ad 40)), (4, iv i)] [] := fun w' hR' => by
      refine g_iinc X 4 [1, 2, 3, 4, 0] (ls1 := [(0, .ref b), (1, .ref (ad 0)), (2, .ref (ad 26)), (3, .ref (ad 40)), (4, iv (i + 8))]) dL_law_948 rfl (by decide) rfl ?_
      refine g_goto X (tgt := 23) dL_law_951 (by decide) ?_
      exact ih (n1 + 1) (n2 + 7) w' (i + 8) (by omega) (by omega) (by omega) hR' (by omega) (by omega)
    refine g_aload_n X 0 dL_law_33 rfl rfl ?_
    refine g_iload X 4 dL_law_34 rfl ?_
    refine g_sld X S (by omega) hN dL_law_36 ?_
    refine g_bipush X 31 dL_law_37 (by decide) ?_
    refine g_iand X dL_law_39 ?_
    have hb := band31 (sx xs i)
    have hw : wr (band (sx xs i) 31) = band (sx xs i) 31 := wr_id (by omega) (by omega)
    by_cases c2 : 20 < band (sx xs i) 31
    · exact g_tableOut X (Or.inr (by rw [hw]; exact c2)) dL_law_40 (tgt := 948) (by decide) (g_wide (by omega) (by omega) (k w hR))
    have cs : band (sx xs i) 31 = 0 ∨ band (sx xs i) 31 = 1 ∨ band (sx xs i) 31 = 2 ∨ band (sx xs i) 31 = 3 ∨ band (sx xs i) 31 = 4 ∨ band (sx xs i) 31 = 5 ∨ band (sx xs i) 31 = 6 ∨ band (sx xs i) 31 = 7 ∨ band (sx xs i) 31 = 8 ∨ band (sx xs i) 31 = 9 ∨ band (sx xs i) 31 = 10 ∨ band (sx xs i) 31 = 11 ∨ band (sx xs i) 31 = 12 ∨ band (sx xs i) 31 = 13 ∨ band (sx xs i) 31 = 14 ∨ band (sx xs i) 31 = 15 ∨ band (sx xs i) 31 = 16 ∨ band (sx xs i) 31 = 17 ∨ band (sx xs i) 31 = 18 ∨ band (sx xs i) 31 = 19 ∨ band (sx xs i) 31 = 20 := by omega
    rcases cs with c3 | c3 | c3 | c3 | c3 | c3 | c3 | c3 | c3 | c3 | c3 | c3 | c3 | c3 | c3 | c3 | c3 | c3 | c3 | c3 | c3
    · exact g_tableIn X 0 (hw.trans c3) dL_law_40 (by decide) (by decide) rfl (tgt := 140) (by decide) (lc_0 X S hi hN hR hf k)
    · exact g_tableIn X 1 (hw.trans c3) dL_law_40 (by decide) (by decide) rfl (tgt := 177) (by decide) (lc_1 X S hi hN hR hf Ez0 k)
    · exact g_tableIn X 2 (hw.trans c3) dL_law_40 (by decide) (by decide) rfl (tgt := 214) (by decide) (lc_2 X S hi hN hR hf k)
    · exact g_tableIn X 3 (hw.trans c3) dL_law_40 (by decide) (by decide) rfl (tgt := 263) (by decide) (lc_3 X S hi hN hR hf k)
    · exact g_tableIn X 4 (hw.trans c3) dL_law_40 (by decide) (by decide) rfl (tgt := 364) (by decide) (lc_4 X S hi hN hR hf k)
    · exact g_tableIn X 5 (hw.trans c3) dL_law_40 (by decide) (by decide) rfl (tgt := 453) (by decide) (lc_5 X S hi hN hR hf k)
    · exact g_tableIn X 6 (hw.trans c3) dL_law_40 (by decide) (by decide) rfl (tgt := 518) (by decide) (lc_6 X S hi hN hR hf k)
    · exact g_tableIn X 7 (hw.trans c3) dL_law_40 (by decide) (by decide) rfl (tgt := 555) (by decide) (lc_7 X S hi hN hR hf k)
    · exact g_tableIn X 8 (hw.trans c3) dL_law_40 (by decide) (by decide) rfl (tgt := 580) (by decide) (lc_8 X S hi hN hR hf k)
    · exact g_tableIn X 9 (hw.trans c3) dL_law_40 (by decide) (by decide) rfl (tgt := 629) (by decide) (lc_9 X S hi hN hR hf k)
    · exact g_tableIn X 10 (hw.trans c3) dL_law_40 (by decide) (by decide) rfl (tgt := 666) (by decide) (lc_10 X S hi hN hR hf k)
    · exact g_tableIn X 11 (hw.trans c3) dL_law_40 (by decide) (by decide) rfl (tgt := 703) (by decide) (lc_11 hlt X S hi hN hR hf Et0 k)
    · exact g_tableIn X 12 (hw.trans c3) dL_law_40 (by decide) (by decide) rfl (tgt := 759) (by decide) (lc_12 X S hi hN hR hf k)
    · exact g_tableIn X 13 (hw.trans c3) dL_law_40 (by decide) (by decide) rfl (tgt := 772) (by decide) (lc_13 X S hi hN hR hf k)
    · exact g_tableIn X 14 (hw.trans c3) dL_law_40 (by decide) (by decide) rfl (tgt := 785) (by decide) (lc_14 X S hi hN hR hf k)
    · exact g_tableIn X 15 (hw.trans c3) dL_law_40 (by decide) (by decide) rfl (tgt := 798) (by decide) (lc_15 X S hi hN hR hf k)
    · exact g_tableIn X 16 (hw.trans c3) dL_law_40 (by decide) (by decide) rfl (tgt := 823) (by decide) (lc_16 X S hi hN hR hf k)
    · exact g_tableIn X 17 (hw.trans c3) dL_law_40 (by decide) (by decide) rfl (tgt := 836) (by decide) (lc_17 X S hi hN hR hf k)
    · exact g_tableIn X 18 (hw.trans c3) dL_law_40 (by decide) (by decide) rfl (tgt := 861) (by decide) (lc_18 X S hi hN hR hf k)
    · exact g_tableIn X 19 (hw.trans c3) dL_law_40 (by decide) (by decide) rfl (tgt := 886) (by decide) (lc_19 X S hi hN hR hf k)
    · exact g_tableIn X 20 (hw.trans c3) dL_law_40 (by decide) (by decide) rfl (tgt := 899) (by decide) (lc_20 X S hi hN hR hf k)

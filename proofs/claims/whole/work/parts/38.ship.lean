/-! The reference's ship and quay. (wip/whole/gen/ship.py) -/
section Ship0
variable {κ : KX} {D : CX} {lay : List Kd} {ad : Nat → Nat} {n1 n2 : Nat} {w : Wd} {pc : Nat} {ls : List (Nat × Value)} {st : List Value} {cc : ByteArray} {own : String} {rm : Room} {lc : Launch} {L : Nat}
theorem g_wide {k n : Nat} (h1 : n1 ≤ k) (h2 : n2 ≤ n) (kk : G κ D lay ad k n w pc ls st) : G κ D lay ad n1 n2 w pc ls st := by
  obtain ⟨p, l, e0, R, s, m, args, below, meth, cd, Q, A, H0, nL⟩ := κ
  exact fun H locs la hP hD hS hl => W.widen h1 h2 (kk H locs la hP hD hS hl)
theorem g_ifz (X : gX κ D cc own rm lc L) {b : Bool} {off : Int} {tgt : Nat} (hd : decode cc pc = .ok (.ifCond .eq off, 3)) (ht : (pc : Int) + off = (tgt : Int)) (k1 : b = false → G κ D lay ad n1 n2 w tgt ls st) (k2 : b = true → G κ D lay ad n1 n2 w (pc + 3) ls st) : G κ D lay ad n1 n2 w pc ls (iv (bz b) :: st) := by
  cases b
  · exact g_if_eq X (Y := some ()) (Z := none) (v := ()) rfl hd ht (fun _ => k1 rfl) (fun h => by cases h)
  · exact g_if_eq X (Y := none) (Z := some ()) (v := ()) rfl hd ht (fun h => by cases h) (fun _ => k2 rfl)
theorem va_P_left {D : va_G} {cl : List vw_C} {a b : va_W} {H : Heap} (h : va_P D cl (a ++ b) H) : va_P D cl a H := fun k q hq => h k q (by rw [List.getElem?_append_left (List.getElem?_eq_some_iff.mp hq).1]; exact hq)
theorem g_iretA (X : gX κ D cc own rm lc L) {ad0 : Nat → Nat} {k : Kd} {x : Int} (Z : gQ κ D lay ad0 (some .int) (some (iv x)) w n1 n2) (had : ∀ c, c < lay.length → ad c = ad0 c) (hB : layB lay.length lay = true) (hd : decode cc pc = .ok (.ireturn, 1)) : G κ D (lay ++ [k]) ad n1 n2 w pc ls [iv x] := by
  obtain ⟨p, l, e0, R, s, m, args, below, meth, cd, Q, A, H0, nL⟩ := κ
  obtain ⟨hx, hb, hml, hown, hts, hK, hlocks, hA, rfl, rfl, rfl⟩ := X
  obtain ⟨sz, hr, rfl, rfl, rfl⟩ := Z
  intro H locs la hP hD hS hl
  rw [cws_app] at hP
  have hP2 := va_P_left hP
  rw [cws_ad had hB (by omega)] at hP2
  exact W.iret hx hb hr (fun t ht hW => ⟨rfl, by rw [ht]; exact hP2, hS.F ht⟩) hS.2.2 hd
end Ship0
def cpW (u : Wd) (c : Nat) (b : Int) : Nat → Wd
  | 0 => u
  | i + 1 => wset (cpW u c b i) c (b + (i : Int)).toNat (u 41 i)
theorem cpW_far {u : Wd} {c : Nat} {b : Int} : ∀ {i : Nat} (a : Nat), a ≠ c → cpW u c b i a = u a
  | 0, _, _ => rfl
  | i + 1, a, h => by rw [cpW, wset_far a h, cpW_far a h]
def shipG (a1 : Int) (a2 : Int) (a3 : Int) (a4 : Int) (a5 : Int) (a6 : Int) (a7 : Int) (n : Int) : Bool := decide (1 ≤ a1 ∧ a1 ≤ 1200) && (decide (1 ≤ a2 ∧ a2 ≤ 120) && (decide (1 ≤ a3 ∧ a3 ≤ 700) && (decide (0 ≤ a4 ∧ a4 ≤ 100) && (decide (0 ≤ a5 ∧ a5 ≤ 3) && (isH a6 && (decide (1 ≤ a7 ∧ a7 ≤ 60) && (decide (n ≠ 7))))))))
def shipU (a1 : Int) (a2 : Int) (a3 : Int) (a4 : Int) (a5 : Int) (a6 : Int) (a7 : Int) (w : Wd) : Wd := (wset (wset (wset (wset (wset (wset (wset (wz w 41) 41 0 a1) 41 1 a2) 41 2 a3) 41 3 a4) 41 4 a5) 41 5 a6) 41 6 a7)
noncomputable def m_ship (a1 : Int) (a2 : Int) (a3 : Int) (a4 : Int) (a5 : Int) (a6 : Int) (a7 : Int) (w : Wd) : Option (Int × Wd) := if shipG a1 a2 a3 a4 a5 a6 a7 (w 26 4) = true then some (w 26 4, wset (cpW (shipU a1 a2 a3 a4 a5 a6 a7 (wset w 26 10 0)) 30 (7 * w 26 4) 7) 26 4 (w 26 4 + 1)) else some (-1, wset w 26 10 0)
abbrev rs_ship : Room := { frames := 2, cells := 1, slots := 7, locals := 42 }
section S_ship
variable {κ : KX} {D : CX} {ad : Nat → Nat} {n1 n2 : Nat} {u : Wd} {rm : Room} {lc : Launch} {a1 a2 a3 a4 a5 a6 a7 : Int} {n : Int}
theorem lp_ship (X : gX κ D cX4_ship RX4 rm lc 10) (hn : u 26 4 = n) (hn0 : 0 ≤ n ∧ n < 7) (k : G κ D (LAY ++ [.inl (0, 7)]) ad n1 n2 (cpW u 30 (7 * n) 7) 163 [(0, .ref (ad 26)), (1, iv a1), (2, iv a2), (3, iv a3), (4, iv a4), (5, iv a5), (6, iv a6), (7, iv a7), (8, .ref (ad 41)), (9, iv (7))] []) : ∀ m i : Nat, i + m = 7 → G κ D (LAY ++ [.inl (0, 7)]) ad n1 n2 (cpW u 30 (7 * n) i) 130 [(0, .ref (ad 26)), (1, iv a1), (2, iv a2), (3, iv a3), (4, iv a4), (5, iv a5), (6, iv a6), (7, iv a7), (8, .ref (ad 41)), (9, iv ((i : Int)))] []
  | 0, i, h => by
    have e : i = 7 := by omega
    subst e
    refine g_iload X 9 dX4_ship_130 rfl ?_
    refine g_bipush X 7 dX4_ship_132 (by decide) ?_
    exact g_icmp_ge X (Y := some ()) (Z := none) (v := ()) (by rw [wr_id (by omega) (by omega), wr_id (by omega) (by omega), if_pos (by omega)]) dX4_ship_134 (tgt := 163) (by decide) (fun _ => k) (fun h => by cases h)
  | m + 1, i, h => by
    have e26 : cpW u 30 (7 * n) i 26 4 = n := by rw [cpW_far 26 (by decide)]; exact hn
    refine g_iload X 9 dX4_ship_130 rfl ?_
    refine g_bipush X 7 dX4_ship_132 (by decide) ?_
    refine g_icmp_ge X (Y := none) (Z := some ()) (v := ()) (by rw [wr_id (by omega) (by omega), wr_id (by omega) (by omega), if_neg (by omega)]) dX4_ship_134 (tgt := 163) (by decide) (fun h => by cases h) (fun _ => ?_)
    refine g_aload_n X 0 dX4_ship_137 rfl rfl ?_
    refine g_getr X (c := 26) (ci := 4) (k0 := 3) (N := 16) (C := RX4) (T := TX4) (c1 := 30) rfl rfl inX4 (by decide) rfl wf_X4_19 rfl dX4_ship_138 ?_
    refine g_bipush X 7 dX4_ship_141 (by decide) ?_
    refine g_aload_n X 0 dX4_ship_143 rfl rfl ?_
    refine g_geti X (c := 26) (ci := 4) (k0 := 4) (N := 16) (C := RX4) (T := TX4) rfl rfl inX4 (by decide) rfl wf_X4_54 rfl dX4_ship_144 ?_
    rw [e26]
    refine g_imul X dX4_ship_147 ?_
    refine g_iload X 9 dX4_ship_148 rfl ?_
    refine g_iadd X dX4_ship_150 ?_
    refine g_aload X 8 dX4_ship_151 rfl ?_
    refine g_iload X 9 dX4_ship_153 rfl ?_
    refine g_ialdC X i (n := 7) (c := 41) rfl (by omega) rfl (by decide) dX4_ship_155 ?_
    refine g_iast X (n := 49) (c := 30) (Z := some ()) (v := ()) (if_pos (by omega)) rfl (by decide) dX4_ship_156 (fun _ => ?_)
    refine g_iinc X 9 [1, 2, 3, 4, 5, 6, 7, 8, 9, 0] (ls1 := [(0, .ref (ad 26)), (1, iv a1), (2, iv a2), (3, iv a3), (4, iv a4), (5, iv a5), (6, iv a6), (7, iv a7), (8, .ref (ad 41)), (9, iv ((i : Int) + 1))]) dX4_ship_157 rfl (by decide) rfl ?_
    refine g_goto X (tgt := 130) dX4_ship_160 (by decide) ?_
    rw [cpW_far 41 (by decide)]
    exact lp_ship X hn hn0 k m (i + 1) (by omega)
end S_ship
theorem mc_m_ship {lc : Launch} {D : CX} {ad : Nat → Nat} {w : Wd} {a1 a2 a3 a4 a5 a6 a7 : Int} {v : Int × Wd} (hn : 0 ≤ w 26 4 ∧ w 26 4 ≤ 7) (r1 : R32 a1) (r2 : R32 a2) (r3 : R32 a3) (r4 : R32 a4) (r5 : R32 a5) (r6 : R32 a6) (r7 : R32 a7) (h : m_ship a1 a2 a3 a4 a5 a6 a7 w = some v) : Mc lc yX4_ship cX4_ship 10 (some .int) rs_ship D LAY ad [.ref (ad 26), iv a1, iv a2, iv a3, iv a4, iv a5, iv a6, iv a7] w (some (iv v.1)) v.2 1 7 := by
  refine mc_of (by decide) (Nat.le_of_ble_eq_true rfl) ?_
  intro κ X Z
  show G κ D LAY ad 0 0 w 0 [(0, .ref (ad 26)), (1, iv a1), (2, iv a2), (3, iv a3), (4, iv a4), (5, iv a5), (6, iv a6), (7, iv a7)] []
  unfold m_ship at h
  have fail : shipG a1 a2 a3 a4 a5 a6 a7 (w 26 4) = false → G κ D LAY ad 0 0 (wset w 26 10 0) 86 [(0, .ref (ad 26)), (1, iv a1), (2, iv a2), (3, iv a3), (4, iv a4), (5, iv a5), (6, iv a6), (7, iv a7)] [] := fun hg => by
    rw [hg, if_neg (by decide)] at h
    cases h
    refine g_wide (k := 1) (n := 7) (by decide) (by decide) ?_
    refine g_iconst X dX4_ship_86 ?_
    exact g_iret X (x := -1) (v := (-1, wset w 26 10 0)) Z rfl dX4_ship_87
  have good : shipG a1 a2 a3 a4 a5 a6 a7 (w 26 4) = true → w 26 4 < 7 → G κ D LAY ad 0 0 (wset w 26 10 0) 88 [(0, .ref (ad 26)), (1, iv a1), (2, iv a2), (3, iv a3), (4, iv a4), (5, iv a5), (6, iv a6), (7, iv a7)] [] := fun hg hlt => by
    rw [hg, if_pos rfl] at h
    cases h
    refine g_bipush X 7 dX4_ship_88 (by decide) ?_
    refine g_newi X (N := 7) (M := 41) (lay' := (LAY ++ [.inl (0, 7)])) rfl rfl rfl (by decide) (by decide) (by decide) (by decide) dX4_ship_90 ?_
    intro ad1 had
    have had : ∀ c, c < 41 → ad1 c = ad c := had
    rw [← had 26 (by decide)]
    refine g_dup X dX4_ship_92 rfl ?_
    refine g_iconst X dX4_ship_93 ?_
    refine g_iload_n X 1 dX4_ship_94 rfl rfl ?_
    refine g_iastC X 0 (n := 7) (c := 41) (by decide) (by decide) rfl (by decide) dX4_ship_95 ?_
    refine g_dup X dX4_ship_96 rfl ?_
    refine g_iconst X dX4_ship_97 ?_
    refine g_iload_n X 2 dX4_ship_98 rfl rfl ?_
    refine g_iastC X 1 (n := 7) (c := 41) (by decide) (by decide) rfl (by decide) dX4_ship_99 ?_
    refine g_dup X dX4_ship_100 rfl ?_
    refine g_iconst X dX4_ship_101 ?_
    refine g_iload_n X 3 dX4_ship_102 rfl rfl ?_
    refine g_iastC X 2 (n := 7) (c := 41) (by decide) (by decide) rfl (by decide) dX4_ship_103 ?_
    refine g_dup X dX4_ship_104 rfl ?_
    refine g_iconst X dX4_ship_105 ?_
    refine g_iload X 4 dX4_ship_106 rfl ?_
    refine g_iastC X 3 (n := 7) (c := 41) (by decide) (by decide) rfl (by decide) dX4_ship_108 ?_
    refine g_dup X dX4_ship_109 rfl ?_
    refine g_iconst X dX4_ship_110 ?_
    refine g_iload X 5 dX4_ship_111 rfl ?_
    refine g_iastC X 4 (n := 7) (c := 41) (by decide) (by decide) rfl (by decide) dX4_ship_113 ?_
    refine g_dup X dX4_ship_114 rfl ?_
    refine g_iconst X dX4_ship_115 ?_
    refine g_iload X 6 dX4_ship_116 rfl ?_
    refine g_iastC X 5 (n := 7) (c := 41) (by decide) (by decide) rfl (by decide) dX4_ship_118 ?_
    refine g_dup X dX4_ship_119 rfl ?_
    refine g_bipush X 6 dX4_ship_120 (by decide) ?_
    refine g_iload X 7 dX4_ship_122 rfl ?_
    refine g_iastC X 6 (n := 7) (c := 41) (by decide) (by decide) rfl (by decide) dX4_ship_124 ?_
    refine g_astore X [1, 2, 3, 4, 5, 6, 7, 8, 0] (ls1 := [(0, .ref (ad1 26)), (1, iv a1), (2, iv a2), (3, iv a3), (4, iv a4), (5, iv a5), (6, iv a6), (7, iv a7), (8, .ref (ad1 41))]) dX4_ship_125 (by decide) rfl ?_
    refine g_iconst X dX4_ship_127 ?_
    refine g_istore X [1, 2, 3, 4, 5, 6, 7, 8, 9, 0] (ls1 := [(0, .ref (ad1 26)), (1, iv a1), (2, iv a2), (3, iv a3), (4, iv a4), (5, iv a5), (6, iv a6), (7, iv a7), (8, .ref (ad1 41)), (9, iv (0))]) dX4_ship_128 (by decide) rfl ?_
    refine lp_ship (u := shipU a1 a2 a3 a4 a5 a6 a7 (wset w 26 10 0)) (n := w 26 4) X rfl ⟨hn.1, hlt⟩ ?_ 7 0 rfl
    have e26 : cpW (shipU a1 a2 a3 a4 a5 a6 a7 (wset w 26 10 0)) 30 (7 * w 26 4) 7 26 4 = w 26 4 := by rw [cpW_far 26 (by decide)]; rfl
    refine g_aload_n X 0 dX4_ship_163 rfl rfl ?_
    refine g_dup X dX4_ship_164 rfl ?_
    refine g_geti X (c := 26) (ci := 4) (k0 := 4) (N := 16) (C := RX4) (T := TX4) rfl rfl inX4 (by decide) rfl wf_X4_54 rfl dX4_ship_165 ?_
    rw [e26]
    refine g_iconst X dX4_ship_168 ?_
    refine g_iadd X dX4_ship_169 ?_
    refine g_puti X (c := 26) (ci := 4) (k0 := 4) (N := 16) (C := RX4) (T := TX4) tyX4 tyX4_ok nmX4 rfl rfl inX4 (by decide) rfl wf_X4_54 rfl rfl (by decide +kernel) dX4_ship_170 ?_
    refine g_aload_n X 0 dX4_ship_173 rfl rfl ?_
    refine g_geti X (c := 26) (ci := 4) (k0 := 4) (N := 16) (C := RX4) (T := TX4) rfl rfl inX4 (by decide) rfl wf_X4_54 rfl dX4_ship_174 ?_
    rw [show (wset (cpW (shipU a1 a2 a3 a4 a5 a6 a7 (wset w 26 10 0)) 30 (7 * w 26 4) 7) 26 4 (w 26 4 + 1)) 26 4 = w 26 4 + 1 from by rw [wset_here]; rfl]
    refine g_iconst X dX4_ship_177 ?_
    refine g_isub X dX4_ship_178 ?_
    rw [show w 26 4 + 1 - 1 = w 26 4 by omega]
    exact g_iretA X Z had rfl dX4_ship_179
  refine g_aload_n X 0 dX4_ship_0 rfl rfl ?_
  refine g_iconst X dX4_ship_1 ?_
  refine gp_X4_50 X dX4_ship_2 ?_
  refine g_iload_n X 1 dX4_ship_5 rfl rfl ?_
  refine g_iconst X dX4_ship_6 ?_
  refine g_sipush X 1200 dX4_ship_7 (by decide) ?_
  refine g_callSi X (st := []) [iv a1, iv 1, iv 1200] (mc_m_in (p_in r1 (by decide) (by decide))) cal_X4_in wm_X4_57 (by decide) rfl rfl ⟨by decide, by decide⟩ rfl (Nat.le_of_ble_eq_true rfl) dX4_ship_10 ?_
  refine g_ifz X dX4_ship_13 (tgt := 86) (by decide) (fun e0 => fail (by unfold shipG; rw [e0]; rfl)) (fun e0 => ?_)
  refine g_iload_n X 2 dX4_ship_16 rfl rfl ?_
  refine g_iconst X dX4_ship_17 ?_
  refine g_bipush X 120 dX4_ship_18 (by decide) ?_
  refine g_callSi X (st := []) [iv a2, iv 1, iv 120] (mc_m_in (p_in r2 (by decide) (by decide))) cal_X4_in wm_X4_57 (by decide) rfl rfl ⟨by decide, by decide⟩ rfl (Nat.le_of_ble_eq_true rfl) dX4_ship_20 ?_
  refine g_ifz X dX4_ship_23 (tgt := 86) (by decide) (fun e1 => fail (by unfold shipG; rw [e0]; rw [e1]; rfl)) (fun e1 => ?_)
  refine g_iload_n X 3 dX4_ship_26 rfl rfl ?_
  refine g_iconst X dX4_ship_27 ?_
  refine g_sipush X 700 dX4_ship_28 (by decide) ?_
  refine g_callSi X (st := []) [iv a3, iv 1, iv 700] (mc_m_in (p_in r3 (by decide) (by decide))) cal_X4_in wm_X4_57 (by decide) rfl rfl ⟨by decide, by decide⟩ rfl (Nat.le_of_ble_eq_true rfl) dX4_ship_31 ?_
  refine g_ifz X dX4_ship_34 (tgt := 86) (by decide) (fun e2 => fail (by unfold shipG; rw [e0]; rw [e1]; rw [e2]; rfl)) (fun e2 => ?_)
  refine g_iload X 4 dX4_ship_37 rfl ?_
  refine g_iconst X dX4_ship_39 ?_
  refine g_bipush X 100 dX4_ship_40 (by decide) ?_
  refine g_callSi X (st := []) [iv a4, iv 0, iv 100] (mc_m_in (p_in r4 (by decide) (by decide))) cal_X4_in wm_X4_57 (by decide) rfl rfl ⟨by decide, by decide⟩ rfl (Nat.le_of_ble_eq_true rfl) dX4_ship_42 ?_
  refine g_ifz X dX4_ship_45 (tgt := 86) (by decide) (fun e3 => fail (by unfold shipG; rw [e0]; rw [e1]; rw [e2]; rw [e3]; rfl)) (fun e3 => ?_)
  refine g_iload X 5 dX4_ship_48 rfl ?_
  refine g_iconst X dX4_ship_50 ?_
  refine g_iconst X dX4_ship_51 ?_
  refine g_callSi X (st := []) [iv a5, iv 0, iv 3] (mc_m_in (p_in r5 (by decide) (by decide))) cal_X4_in wm_X4_57 (by decide) rfl rfl ⟨by decide, by decide⟩ rfl (Nat.le_of_ble_eq_true rfl) dX4_ship_52 ?_
  refine g_ifz X dX4_ship_55 (tgt := 86) (by decide) (fun e4 => fail (by unfold shipG; rw [e0]; rw [e1]; rw [e2]; rw [e3]; rw [e4]; rfl)) (fun e4 => ?_)
  refine g_iload X 6 dX4_ship_58 rfl ?_
  refine g_callSi X (st := []) [iv a6] (mc_m_isHour (q_isHour r6)) cal_X4_isHour wm_X4_68 (by decide) rfl rfl ⟨by decide, by decide⟩ rfl (Nat.le_of_ble_eq_true rfl) dX4_ship_60 ?_
  refine g_ifz X dX4_ship_63 (tgt := 86) (by decide) (fun e5 => fail (by unfold shipG; rw [e0]; rw [e1]; rw [e2]; rw [e3]; rw [e4]; rw [e5]; rfl)) (fun e5 => ?_)
  refine g_iload X 7 dX4_ship_66 rfl ?_
  refine g_iconst X dX4_ship_68 ?_
  refine g_bipush X 60 dX4_ship_69 (by decide) ?_
  refine g_callSi X (st := []) [iv a7, iv 1, iv 60] (mc_m_in (p_in r7 (by decide) (by decide))) cal_X4_in wm_X4_57 (by decide) rfl rfl ⟨by decide, by decide⟩ rfl (Nat.le_of_ble_eq_true rfl) dX4_ship_71 ?_
  refine g_ifz X dX4_ship_74 (tgt := 86) (by decide) (fun e6 => fail (by unfold shipG; rw [e0]; rw [e1]; rw [e2]; rw [e3]; rw [e4]; rw [e5]; rw [e6]; rfl)) (fun e6 => ?_)
  refine g_aload_n X 0 dX4_ship_77 rfl rfl ?_
  refine gf_X4_54 X dX4_ship_78 ?_
  refine g_bipush X 7 dX4_ship_81 (by decide) ?_
  show G κ D LAY ad 0 0 (wset w 26 10 0) 83 [(0, .ref (ad 26)), (1, iv a1), (2, iv a2), (3, iv a3), (4, iv a4), (5, iv a5), (6, iv a6), (7, iv a7)] [iv 7, iv (w 26 4)]
  by_cases c : w 26 4 = 7
  · exact g_icmp_ne X (Y := none) (Z := some ()) (v := ()) (by rw [wr_id (by omega) (by omega), wr_id (by omega) (by omega), if_pos c]) dX4_ship_83 (tgt := 88) (by decide) (fun h => by cases h) (fun _ => fail (by unfold shipG; rw [e0]; rw [e1]; rw [e2]; rw [e3]; rw [e4]; rw [e5]; rw [e6]; rw [decide_eq_false (by omega)]; rfl))
  · exact g_icmp_ne X (Y := some ()) (Z := none) (v := ()) (by rw [wr_id (by omega) (by omega), wr_id (by omega) (by omega), if_neg c]) dX4_ship_83 (tgt := 88) (by decide) (fun _ => good (by unfold shipG; rw [e0]; rw [e1]; rw [e2]; rw [e3]; rw [e4]; rw [e5]; rw [e6]; rw [decide_eq_true c]; rfl) (by omega)) (fun h => by cases h)
def quayG (a1 : Int) (a2 : Int) (v3 : Bool) (a4 : Int) (a5 : Int) (n : Int) : Bool := decide (1 ≤ a1 ∧ a1 ≤ 4000) && (decide (1 ≤ a2 ∧ a2 ≤ 200) && (decide (0 ≤ a4 ∧ a4 ≤ 10) && (decide (0 ≤ a5 ∧ a5 ≤ 120) && (decide (n ≠ 4)))))
def quayU (a1 : Int) (a2 : Int) (v3 : Bool) (a4 : Int) (a5 : Int) (w : Wd) : Wd := (wset (wset (wset (wset (wset (wz w 41) 41 0 a1) 41 1 a2) 41 2 (bz v3)) 41 3 a4) 41 4 a5)
noncomputable def m_quay (a1 : Int) (a2 : Int) (v3 : Bool) (a4 : Int) (a5 : Int) (w : Wd) : Option (Int × Wd) := if quayG a1 a2 v3 a4 a5 (w 26 6) = true then some (w 26 6, wset (cpW (quayU a1 a2 v3 a4 a5 (wset w 26 10 0)) 31 (5 * w 26 6) 5) 26 6 (w 26 6 + 1)) else some (-1, wset w 26 10 0)
abbrev rs_quay : Room := { frames := 2, cells := 1, slots := 5, locals := 42 }
section S_quay
variable {κ : KX} {D : CX} {ad : Nat → Nat} {n1 n2 : Nat} {u : Wd} {rm : Room} {lc : Launch} {a1 a2 a4 a5 : Int} {v3 : Bool} {n : Int}
theorem lp_quay (X : gX κ D cX4_quay RX4 rm lc 8) (hn : u 26 6 = n) (hn0 : 0 ≤ n ∧ n < 4) (k : G κ D (LAY ++ [.inl (0, 5)]) ad n1 n2 (cpW u 31 (5 * n) 5) 128 [(0, .ref (ad 26)), (1, iv a1), (2, iv a2), (3, iv (bz v3)), (4, iv a4), (5, iv a5), (6, .ref (ad 41)), (7, iv (5))] []) : ∀ m i : Nat, i + m = 5 → G κ D (LAY ++ [.inl (0, 5)]) ad n1 n2 (cpW u 31 (5 * n) i) 97 [(0, .ref (ad 26)), (1, iv a1), (2, iv a2), (3, iv (bz v3)), (4, iv a4), (5, iv a5), (6, .ref (ad 41)), (7, iv ((i : Int)))] []
  | 0, i, h => by
    have e : i = 5 := by omega
    subst e
    refine g_iload X 7 dX4_quay_97 rfl ?_
    refine g_iconst X dX4_quay_99 ?_
    exact g_icmp_ge X (Y := some ()) (Z := none) (v := ()) (by rw [wr_id (by omega) (by omega), wr_id (by omega) (by omega), if_pos (by omega)]) dX4_quay_100 (tgt := 128) (by decide) (fun _ => k) (fun h => by cases h)
  | m + 1, i, h => by
    have e26 : cpW u 31 (5 * n) i 26 6 = n := by rw [cpW_far 26 (by decide)]; exact hn
    refine g_iload X 7 dX4_quay_97 rfl ?_
    refine g_iconst X dX4_quay_99 ?_
    refine g_icmp_ge X (Y := none) (Z := some ()) (v := ()) (by rw [wr_id (by omega) (by omega), wr_id (by omega) (by omega), if_neg (by omega)]) dX4_quay_100 (tgt := 128) (by decide) (fun h => by cases h) (fun _ => ?_)
    refine g_aload_n X 0 dX4_quay_103 rfl rfl ?_
    refine g_getr X (c := 26) (ci := 4) (k0 := 5) (N := 16) (C := RX4) (T := TX4) (c1 := 31) rfl rfl inX4 (by decide) rfl wf_X4_22 rfl dX4_quay_104 ?_
    refine g_iconst X dX4_quay_107 ?_
    refine g_aload_n X 0 dX4_quay_108 rfl rfl ?_
    refine g_geti X (c := 26) (ci := 4) (k0 := 6) (N := 16) (C := RX4) (T := TX4) rfl rfl inX4 (by decide) rfl wf_X4_61 rfl dX4_quay_109 ?_
    rw [e26]
    refine g_imul X dX4_quay_112 ?_
    refine g_iload X 7 dX4_quay_113 rfl ?_
    refine g_iadd X dX4_quay_115 ?_
    refine g_aload X 6 dX4_quay_116 rfl ?_
    refine g_iload X 7 dX4_quay_118 rfl ?_
    refine g_ialdC X i (n := 5) (c := 41) rfl (by omega) rfl (by decide) dX4_quay_120 ?_
    refine g_iast X (n := 20) (c := 31) (Z := some ()) (v := ()) (if_pos (by omega)) rfl (by decide) dX4_quay_121 (fun _ => ?_)
    refine g_iinc X 7 [1, 2, 3, 4, 5, 6, 7, 0] (ls1 := [(0, .ref (ad 26)), (1, iv a1), (2, iv a2), (3, iv (bz v3)), (4, iv a4), (5, iv a5), (6, .ref (ad 41)), (7, iv ((i : Int) + 1))]) dX4_quay_122 rfl (by decide) rfl ?_
    refine g_goto X (tgt := 97) dX4_quay_125 (by decide) ?_
    rw [cpW_far 41 (by decide)]
    exact lp_quay X hn hn0 k m (i + 1) (by omega)
end S_quay
theorem mc_m_quay {lc : Launch} {D : CX} {ad : Nat → Nat} {w : Wd} {a1 a2 a4 a5 : Int} {v3 : Bool} {v : Int × Wd} (hn : 0 ≤ w 26 6 ∧ w 26 6 ≤ 4) (r1 : R32 a1) (r2 : R32 a2) (r4 : R32 a4) (r5 : R32 a5) (h : m_quay a1 a2 v3 a4 a5 w = some v) : Mc lc yX4_quay cX4_quay 8 (some .int) rs_quay D LAY ad [.ref (ad 26), iv a1, iv a2, iv (bz v3), iv a4, iv a5] w (some (iv v.1)) v.2 1 5 := by
  refine mc_of (by decide) (Nat.le_of_ble_eq_true rfl) ?_
  intro κ X Z
  show G κ D LAY ad 0 0 w 0 [(0, .ref (ad 26)), (1, iv a1), (2, iv a2), (3, iv (bz v3)), (4, iv a4), (5, iv a5)] []
  unfold m_quay at h
  have fail : quayG a1 a2 v3 a4 a5 (w 26 6) = false → G κ D LAY ad 0 0 (wset w 26 10 0) 57 [(0, .ref (ad 26)), (1, iv a1), (2, iv a2), (3, iv (bz v3)), (4, iv a4), (5, iv a5)] [] := fun hg => by
    rw [hg, if_neg (by decide)] at h
    cases h
    refine g_wide (k := 1) (n := 5) (by decide) (by decide) ?_
    refine g_iconst X dX4_quay_57 ?_
    exact g_iret X (x := -1) (v := (-1, wset w 26 10 0)) Z rfl dX4_quay_58
  have good : quayG a1 a2 v3 a4 a5 (w 26 6) = true → w 26 6 < 4 → G κ D LAY ad 0 0 (wset w 26 10 0) 59 [(0, .ref (ad 26)), (1, iv a1), (2, iv a2), (3, iv (bz v3)), (4, iv a4), (5, iv a5)] [] := fun hg hlt => by
    rw [hg, if_pos rfl] at h
    cases h
    refine g_iconst X dX4_quay_59 ?_
    refine g_newi X (N := 5) (M := 41) (lay' := (LAY ++ [.inl (0, 5)])) rfl rfl rfl (by decide) (by decide) (by decide) (by decide) dX4_quay_60 ?_
    intro ad1 had
    have had : ∀ c, c < 41 → ad1 c = ad c := had
    rw [← had 26 (by decide)]
    refine g_dup X dX4_quay_62 rfl ?_
    refine g_iconst X dX4_quay_63 ?_
    refine g_iload_n X 1 dX4_quay_64 rfl rfl ?_
    refine g_iastC X 0 (n := 5) (c := 41) (by decide) (by decide) rfl (by decide) dX4_quay_65 ?_
    refine g_dup X dX4_quay_66 rfl ?_
    refine g_iconst X dX4_quay_67 ?_
    refine g_iload_n X 2 dX4_quay_68 rfl rfl ?_
    refine g_iastC X 1 (n := 5) (c := 41) (by decide) (by decide) rfl (by decide) dX4_quay_69 ?_
    refine g_dup X dX4_quay_70 rfl ?_
    refine g_iconst X dX4_quay_71 ?_
    refine g_iload_n X 3 dX4_quay_72 rfl rfl ?_
    have jn : G κ D (LAY ++ [.inl (0, 5)]) ad1 1 5 (wset (wset (wz (wset w 26 10 0) 41) 41 0 a1) 41 1 a2) 81 [(0, .ref (ad1 26)), (1, iv a1), (2, iv a2), (3, iv (bz v3)), (4, iv a4), (5, iv a5)] (iv (bz v3) :: iv 2 :: .ref (ad1 41) :: [.ref (ad1 41)]) := ?_
    · refine g_ifz X dX4_quay_73 (tgt := 80) (by decide) (fun e => ?_) (fun e => ?_)
      · rw [e] at jn ⊢
        refine g_iconst X dX4_quay_80 ?_
        exact jn
      · rw [e] at jn ⊢
        refine g_iconst X dX4_quay_76 ?_
        refine g_goto X (tgt := 81) dX4_quay_77 (by decide) ?_
        exact jn
    refine g_iastC X 2 (n := 5) (c := 41) (by decide) (by decide) rfl (by decide) dX4_quay_81 ?_
    refine g_dup X dX4_quay_82 rfl ?_
    refine g_iconst X dX4_quay_83 ?_
    refine g_iload X 4 dX4_quay_84 rfl ?_
    refine g_iastC X 3 (n := 5) (c := 41) (by decide) (by decide) rfl (by decide) dX4_quay_86 ?_
    refine g_dup X dX4_quay_87 rfl ?_
    refine g_iconst X dX4_quay_88 ?_
    refine g_iload X 5 dX4_quay_89 rfl ?_
    refine g_iastC X 4 (n := 5) (c := 41) (by decide) (by decide) rfl (by decide) dX4_quay_91 ?_
    refine g_astore X [1, 2, 3, 4, 5, 6, 0] (ls1 := [(0, .ref (ad1 26)), (1, iv a1), (2, iv a2), (3, iv (bz v3)), (4, iv a4), (5, iv a5), (6, .ref (ad1 41))]) dX4_quay_92 (by decide) rfl ?_
    refine g_iconst X dX4_quay_94 ?_
    refine g_istore X [1, 2, 3, 4, 5, 6, 7, 0] (ls1 := [(0, .ref (ad1 26)), (1, iv a1), (2, iv a2), (3, iv (bz v3)), (4, iv a4), (5, iv a5), (6, .ref (ad1 41)), (7, iv (0))]) dX4_quay_95 (by decide) rfl ?_
    refine lp_quay (u := quayU a1 a2 v3 a4 a5 (wset w 26 10 0)) (n := w 26 6) X rfl ⟨hn.1, hlt⟩ ?_ 5 0 rfl
    have e26 : cpW (quayU a1 a2 v3 a4 a5 (wset w 26 10 0)) 31 (5 * w 26 6) 5 26 6 = w 26 6 := by rw [cpW_far 26 (by decide)]; rfl
    refine g_aload_n X 0 dX4_quay_128 rfl rfl ?_
    refine g_dup X dX4_quay_129 rfl ?_
    refine g_geti X (c := 26) (ci := 4) (k0 := 6) (N := 16) (C := RX4) (T := TX4) rfl rfl inX4 (by decide) rfl wf_X4_61 rfl dX4_quay_130 ?_
    rw [e26]
    refine g_iconst X dX4_quay_133 ?_
    refine g_iadd X dX4_quay_134 ?_
    refine g_puti X (c := 26) (ci := 4) (k0 := 6) (N := 16) (C := RX4) (T := TX4) tyX4 tyX4_ok nmX4 rfl rfl inX4 (by decide) rfl wf_X4_61 rfl rfl (by decide +kernel) dX4_quay_135 ?_
    refine g_aload_n X 0 dX4_quay_138 rfl rfl ?_
    refine g_geti X (c := 26) (ci := 4) (k0 := 6) (N := 16) (C := RX4) (T := TX4) rfl rfl inX4 (by decide) rfl wf_X4_61 rfl dX4_quay_139 ?_
    rw [show (wset (cpW (quayU a1 a2 v3 a4 a5 (wset w 26 10 0)) 31 (5 * w 26 6) 5) 26 6 (w 26 6 + 1)) 26 6 = w 26 6 + 1 from by rw [wset_here]; rfl]
    refine g_iconst X dX4_quay_142 ?_
    refine g_isub X dX4_quay_143 ?_
    rw [show w 26 6 + 1 - 1 = w 26 6 by omega]
    exact g_iretA X Z had rfl dX4_quay_144
  refine g_aload_n X 0 dX4_quay_0 rfl rfl ?_
  refine g_iconst X dX4_quay_1 ?_
  refine gp_X4_50 X dX4_quay_2 ?_
  refine g_iload_n X 1 dX4_quay_5 rfl rfl ?_
  refine g_iconst X dX4_quay_6 ?_
  refine g_sipush X 4000 dX4_quay_7 (by decide) ?_
  refine g_callSi X (st := []) [iv a1, iv 1, iv 4000] (mc_m_in (p_in r1 (by decide) (by decide))) cal_X4_in wm_X4_57 (by decide) rfl rfl ⟨by decide, by decide⟩ rfl (Nat.le_of_ble_eq_true rfl) dX4_quay_10 ?_
  refine g_ifz X dX4_quay_13 (tgt := 57) (by decide) (fun e0 => fail (by unfold quayG; rw [e0]; rfl)) (fun e0 => ?_)
  refine g_iload_n X 2 dX4_quay_16 rfl rfl ?_
  refine g_iconst X dX4_quay_17 ?_
  refine g_sipush X 200 dX4_quay_18 (by decide) ?_
  refine g_callSi X (st := []) [iv a2, iv 1, iv 200] (mc_m_in (p_in r2 (by decide) (by decide))) cal_X4_in wm_X4_57 (by decide) rfl rfl ⟨by decide, by decide⟩ rfl (Nat.le_of_ble_eq_true rfl) dX4_quay_21 ?_
  refine g_ifz X dX4_quay_24 (tgt := 57) (by decide) (fun e1 => fail (by unfold quayG; rw [e0]; rw [e1]; rfl)) (fun e1 => ?_)
  refine g_iload X 4 dX4_quay_27 rfl ?_
  refine g_iconst X dX4_quay_29 ?_
  refine g_bipush X 10 dX4_quay_30 (by decide) ?_
  refine g_callSi X (st := []) [iv a4, iv 0, iv 10] (mc_m_in (p_in r4 (by decide) (by decide))) cal_X4_in wm_X4_57 (by decide) rfl rfl ⟨by decide, by decide⟩ rfl (Nat.le_of_ble_eq_true rfl) dX4_quay_32 ?_
  refine g_ifz X dX4_quay_35 (tgt := 57) (by decide) (fun e2 => fail (by unfold quayG; rw [e0]; rw [e1]; rw [e2]; rfl)) (fun e2 => ?_)
  refine g_iload X 5 dX4_quay_38 rfl ?_
  refine g_iconst X dX4_quay_40 ?_
  refine g_bipush X 120 dX4_quay_41 (by decide) ?_
  refine g_callSi X (st := []) [iv a5, iv 0, iv 120] (mc_m_in (p_in r5 (by decide) (by decide))) cal_X4_in wm_X4_57 (by decide) rfl rfl ⟨by decide, by decide⟩ rfl (Nat.le_of_ble_eq_true rfl) dX4_quay_43 ?_
  refine g_ifz X dX4_quay_46 (tgt := 57) (by decide) (fun e3 => fail (by unfold quayG; rw [e0]; rw [e1]; rw [e2]; rw [e3]; rfl)) (fun e3 => ?_)
  refine g_aload_n X 0 dX4_quay_49 rfl rfl ?_
  refine gf_X4_61 X dX4_quay_50 ?_
  refine g_iconst X dX4_quay_53 ?_
  show G κ D LAY ad 0 0 (wset w 26 10 0) 54 [(0, .ref (ad 26)), (1, iv a1), (2, iv a2), (3, iv (bz v3)), (4, iv a4), (5, iv a5)] [iv 4, iv (w 26 6)]
  by_cases c : w 26 6 = 4
  · exact g_icmp_ne X (Y := none) (Z := some ()) (v := ()) (by rw [wr_id (by omega) (by omega), wr_id (by omega) (by omega), if_pos c]) dX4_quay_54 (tgt := 59) (by decide) (fun h => by cases h) (fun _ => fail (by unfold quayG; rw [e0]; rw [e1]; rw [e2]; rw [e3]; rw [decide_eq_false (by omega)]; rfl))
  · exact g_icmp_ne X (Y := some ()) (Z := none) (v := ()) (by rw [wr_id (by omega) (by omega), wr_id (by omega) (by omega), if_neg c]) dX4_quay_54 (tgt := 59) (by decide) (fun _ => good (by unfold quayG; rw [e0]; rw [e1]; rw [e2]; rw [e3]; rw [decide_eq_true c]; rfl) (by omega)) (fun h => by cases h)

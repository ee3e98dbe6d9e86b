/-! What lies outside the world (statics), carried to a callee; set. -/
abbrev EX : Type := (Nat → Prop) → State → Heap → Prop
def EOK (E : EX) : Prop := (∀ (A : Nat → Prop) (u U : State) (H : Heap), u.WarmedH U.vm → E A u H → E A U H) ∧ (∀ (A : Nat → Prop) (U : State) (H H1 : Heap), E A U H → (∀ a : Nat, a < H.size → ¬ A a → H1[a]? = H[a]?) → E A U H1) ∧ (∀ (A B : Nat → Prop) (U : State) (H : Heap), E A U H → (∀ q, B q → A q) → E B U H) ∧ (∀ (A : Nat → Prop) (u U : State) (H : Heap), U.vm = u.vm → E A u H → E A U H)
def PmE (E : EX) (D : CX) (lay : List Kd) (ad : Nat → Nat) (av : List Value) (w : Wd) (sz : Nat) : Array Value → State → Prop := fun a U => Pm D lay ad av w sz a U ∧ E (aF ad lay.length sz) U U.heap
def McE (E : EX) (l : Launch) (y : MethodName) (cc : ByteArray) (mL : Nat) (ret : Option FieldType) (rm : Room) (D : CX) (lay : List Kd) (ad : Nat → Nat) (av : List Value) (w : Wd) (r : Option Value) (w' : Wd) (mc ms : Nat) : Prop :=
  ∀ sz, Met l y (Cond.code y cc mL ret :: Wu) rm (PmE E D lay ad av w sz) (Qm D lay ad r w' sz) mc ms (aF ad lay.length sz)
theorem PmE_blind {E : EX} (hE : EOK E) {D : CX} {lay : List Kd} {ad : Nat → Nat} {av : List Value} {w : Wd} {sz : Nat} : FrameBlind (PmE E D lay ad av w sz) := fun a U g mk q => ⟨Pm_blind a U g mk q.1, hE.2.2.2 _ U (U.calling g mk a) _ rfl q.2⟩
def gE (κ : KX) (E : EX) : Prop := match κ with
  | (_, _, _, _, s, _, _, _, _, _, _, A, H0, _) => E A s H0 ∧ H0 = s.heap
section SetRows
variable {κ : KX} {D : CX} {lay : List Kd} {ad : Nat → Nat} {n1 n2 : Nat} {w : Wd} {pc : Nat} {ls : List (Nat × Value)} {st : List Value} {cc : ByteArray} {own : String} {rm : Room} {lc : Launch} {L : Nat} {E : EX}
theorem E_at {A : Nat → Prop} {s U : State} {H0 H : Heap} {locs : List Loc} (hE : EOK E) (h : E A s H0) (hS : va_S A H0 H locs) (hA : ∀ q, H0.size ≤ q → A q) (hD : va_D A (cws D ad w 0 lay)) (hU : U.heap = H) (hW : s.WarmedH U.vm) : E (aF ad lay.length H.size) U U.heap := by
  rw [hU]
  exact hE.1 _ s U _ hW (hE.2.2.1 _ _ _ _ (hE.2.1 _ _ _ _ h hS.2.1) (cws_A hD hS hA))
theorem g_callVE (X : gX κ D cc own rm lc L) (hE : EOK E) (hk : gE κ E) {y : MethodName} {bytes : ByteArray} {mL mc ms ci index N : Nat} {ret : Option FieldType} {rm1 : Room} {stk : List Value} {r : Option Value} {w' : Wd} {fs : List (Option (Option Nat))} {T : u_T}
    (c : Nat) (av : List Value) (hM : McE E lc y bytes mL ret rm1 D lay ad (.ref (ad c) :: av) w r w' mc ms) (hV : CalV y bytes mL ret av.length)
    (hc : lay[c]? = some (.inr (ci, fs))) (hci : vwCl[ci]? = some (y.cls, T, N)) (hw : Cond.methodLink own index y ∈ Wu) (hR : rm1.frames + 1 ≤ rm.frames ∧ 8 + (mL + 11) + rm1.locals ≤ rm.locals) (hmc : rm1.cells = mc) (hms : rm1.slots = ms) (hf : n1 + mc ≤ rm.cells ∧ n2 + ms ≤ rm.slots)
    (hst : stk = av.reverse ++ .ref (ad c) :: st) (hcat : (st.map fun v => v.category).sum ≤ 8) (hd : decode cc pc = .ok (.invokevirtual index, 3))
    (k : G κ D lay ad (n1 + mc) (n2 + ms) w' (pc + 3) ls (r.toList ++ st)) : G κ D lay ad n1 n2 w pc ls stk := by
  obtain ⟨p, l, e0, R, s, m, args, below, meth, cd, Q, A, H0, nL⟩ := κ
  obtain ⟨hx, hb, hml, hown, hts, hK, hlocks, hA, rfl, rfl, rfl⟩ := X
  intro H locs la hP hD hS hl
  obtain ⟨v1, v2, v3, v4, v5⟩ := hV
  exact g_run (va_runV (As := av) (rest := st) ⟨hx, hb, hml, hown, hts⟩ (hM H.size) ⟨callB_of av.length hts (wu_good _ _ _ _ v4) rfl hmc hms (hts _ v3) (hts _ hw) v5 hR, hts _ v1, hts _ v2⟩
    ⟨PmE_blind hE, va_recv hK hP hci (cws_at0 hc), fun U hU hW => ⟨⟨rfl, by rw [hU], by rw [hU]; exact hP, va_K.moved hW.alike hK, hD.weaken (fun _ _ _ _ => trivial)⟩, E_at hE hk.1 hS hA hD hU hW⟩⟩ rfl rfl hl.1 hst (lv_room hcat) hd hf) hA hD hS hl k
theorem mce_of {y : MethodName} {mL mc ms : Nat} {ret : Option FieldType} {av : List Value} {r : Option Value} {w' : Wd} (hy : plainName y.cls = true) (hlen : (lg_sl av).length ≤ mL)
    (body : ∀ κ : KX, gX κ D cc y.cls rm lc mL → gE κ E → gQ κ D lay ad ret r w' mc ms → G κ D lay ad 0 0 w 0 (lv_args 0 av) []) : McE E lc y cc mL ret rm D lay ad av w r w' mc ms := by
  intro sz
  refine Met.ofW (cc := cc) (maxL := mL) (ret := ret) hy rfl ?_
  intro p e s m args below meth c s₁ B hml hv
  obtain ⟨⟨rfl, hsz, hP, hK, hD⟩, hE⟩ := hv
  have hts := atoms_spec (ws := Cond.code y cc mL ret :: Wu) B.pre
  have hl := lv_entry av (n := mL) hlen
  rw [lg_entry_eq]
  generalize (lg_sl av ++ List.replicate (mL - (lg_sl av).length) Slot.unset).toArray = la at hl ⊢
  exact body (p, lc, e, rm, s, m, av.toArray, below, meth, c, _, aF ad lay.length sz, s.heap, mL)
    ⟨B.exec, B.bytes, hml, findClass_of_methodNamed B.named, fun w hw => hts w (List.mem_cons_of_mem _ hw), hK, B.notSynchronized, fun q h => Or.inr (by rw [← hsz]; exact h), rfl, rfl, rfl⟩
    ⟨hE, rfl⟩ ⟨sz, B.returns, rfl, rfl, rfl⟩ s.heap [] la hP ⟨hD.1, fun k q hq => by
      obtain ⟨h1, h2⟩ := cws_in hq
      exact Or.inl ⟨k, h1, by rw [h2, Nat.zero_add]⟩⟩ va_S.rf hl
/-! the static row of the greatest settings -/
def fMS : Nat → Value := fun j => .int (([200, 900, 20, 100, 100] : List Int32).getD j 0)
def Ez (t : Nat) : EX := fun A U H => va_Z "TallShips" "MOST_SETTING" "[I" (.ref t) A U H ∧ va_T .int t 5 fMS A U H
theorem Ez_ok (t : Nat) : EOK (Ez t) := ⟨fun A u U H hv h => ⟨va_Z.moved hv.alike h.1, va_T.moved hv.alike h.2⟩, fun A U H H1 h hq => ⟨h.1.kept hq, h.2.kept hq⟩, fun A B U H h hAB => ⟨h.1.narrow hAB, h.2.narrow hAB⟩, fun A u U H hv h => by
  have ha : u.vm.Alike U.vm := by rw [hv]; exact Vm.Alike.refl _
  exact ⟨va_Z.moved ha h.1, va_T.moved ha h.2⟩⟩
theorem w_ms : Cond.fieldLink RX3 51 "TallShips" "MOST_SETTING" "[I" ∈ Wu := wq 208 (by decide +kernel) (by decide +kernel)
theorem g_ms (X : gX κ D cc RX3 rm lc L) {t : Nat} (hk : gE κ (Ez t)) (hd : decode cc pc = .ok (.getstatic 51, 3)) (k : G κ D lay ad n1 n2 w (pc + 3) ls (.ref t :: st)) : G κ D lay ad n1 n2 w pc ls st := by
  obtain ⟨p, l, e0, R, s, m, args, below, meth, cd, Q, A, H0, nL⟩ := κ
  obtain ⟨hx, hb, hml, hown, hts, hK, hlocks, hA, rfl, rfl, rfl⟩ := X
  obtain ⟨hE, rfl⟩ := hk
  intro H locs la hP hD hS hl
  exact va_gets hx hb hE.1 hS hown (hts _ w_ms) (fun x h => h) hd (k H locs la hP hD hS hl)
theorem g_msld (X : gX κ D cc RX3 rm lc L) {t : Nat} (hk : gE κ (Ez t)) {i x : Int} (hi : 0 ≤ i ∧ i < 5) (hv : fMS i.toNat = iv x) (hd : decode cc pc = .ok (.iaload, 1)) (k : G κ D lay ad n1 n2 w (pc + 1) ls (iv x :: st)) : G κ D lay ad n1 n2 w pc ls (iv i :: .ref t :: st) := by
  obtain ⟨p, l, e0, R, s, m, args, below, meth, cd, Q, A, H0, nL⟩ := κ
  obtain ⟨hx, hb, hml, hown, hts, hK, hlocks, hA, rfl, rfl, rfl⟩ := X
  obtain ⟨hE, rfl⟩ := hk
  intro H locs la hP hD hS hl
  exact va_ti hx hb hE.2 hS (iN_in (n := 5) (by omega) (by decide)) (by rw [iN_nat (by omega) (by omega)]; exact hv) hd (k H locs la hP hD hS hl)
end SetRows
def mostS (a : Int) : Int := if a = 0 then 200 else if a = 1 then 900 else if a = 2 then 20 else 100
theorem mostS_bd (a : Int) : 0 ≤ mostS a ∧ mostS a ≤ 900 := by unfold mostS; split <;> (try split) <;> (try split) <;> omega
theorem fMS_at {a : Int} (h : 0 ≤ a ∧ a < 5) : fMS a.toNat = iv (mostS a) := by
  have : a = 0 ∨ a = 1 ∨ a = 2 ∨ a = 3 ∨ a = 4 := by omega
  rcases this with rfl | rfl | rfl | rfl | rfl <;> rfl
def setG (a b : Int) : Bool := decide (0 ≤ a ∧ a ≤ 4) && decide (0 ≤ b ∧ b ≤ mostS a)
noncomputable def x_set (a b : Int) (w : Wd) : Option (Int × Wd) := if setG a b = true then some (w 4 a.toNat, wset w 4 a.toNat b) else some (-1, w)
theorem mc_x_set {lc : Launch} {D : CX} {ad : Nat → Nat} {w : Wd} {a b : Int} {v : Int × Wd} {t : Nat} (ra : R32 a) (rb : R32 b) (h : x_set a b w = some v) : McE (Ez t) lc yX3_set cX3_set 4 (some .int) rmX3_set D LAY ad [.ref (ad 0), iv a, iv b] w (some (iv v.1)) v.2 0 0 := by
  refine mce_of (by decide) (Nat.le_of_ble_eq_true rfl) ?_
  intro κ X E Z
  show G κ D LAY ad 0 0 w 0 [(0, .ref (ad 0)), (1, iv a), (2, iv b)] []
  unfold x_set at h
  have fail : setG a b = false → G κ D LAY ad 0 0 w 22 [(0, .ref (ad 0)), (1, iv a), (2, iv b)] [] := fun hg => by
    rw [hg, if_neg (by decide)] at h
    cases h
    refine g_iconst X dX3_set_22 ?_
    exact g_iret X (x := -1) (v := (-1, w)) Z rfl dX3_set_23
  have good : setG a b = true → 0 ≤ a ∧ a < 5 → G κ D LAY ad 0 0 w 24 [(0, .ref (ad 0)), (1, iv a), (2, iv b)] [] := fun hg ha => by
    rw [hg, if_pos rfl] at h
    cases h
    refine g_aload_n X 0 dX3_set_24 rfl rfl ?_
    refine gf_X3_12 X dX3_set_25 ?_
    refine gf_X3_54 X dX3_set_28 ?_
    refine g_iload_n X 1 dX3_set_31 rfl rfl ?_
    refine g_iald X (n := 5) (c := 4) (Z := some ()) (v := ()) (if_pos ha) rfl (by decide) dX3_set_32 (fun _ => ?_)
    refine g_istore_n X [1, 2, 3, 0] (ls1 := [(0, .ref (ad 0)), (1, iv a), (2, iv b), (3, iv (w 4 a.toNat))]) dX3_set_33 rfl (by decide) rfl ?_
    refine g_aload_n X 0 dX3_set_34 rfl rfl ?_
    refine gf_X3_12 X dX3_set_35 ?_
    refine gf_X3_54 X dX3_set_38 ?_
    refine g_iload_n X 1 dX3_set_41 rfl rfl ?_
    refine g_iload_n X 2 dX3_set_42 rfl rfl ?_
    refine g_iast X (n := 5) (c := 4) (Z := some ()) (v := ()) (if_pos ha) rfl (by decide) dX3_set_43 (fun _ => ?_)
    refine g_iload_n X 3 dX3_set_44 rfl rfl ?_
    exact g_iret X (x := w 4 a.toNat) (v := (w 4 a.toNat, wset w 4 a.toNat b)) Z rfl dX3_set_45
  have hm := mostS_bd a
  refine g_iload_n X 1 dX3_set_0 rfl rfl ?_
  refine g_iconst X dX3_set_1 ?_
  refine g_iconst X dX3_set_2 ?_
  refine g_callSi X (st := []) [iv a, iv 0, iv 4] (mc_x_within (p_within ra (by decide) (by decide))) cal_X3_within wm_X3_44 (by decide) rfl rfl ⟨by decide, by decide⟩ rfl (Nat.le_of_ble_eq_true rfl) dX3_set_3 ?_
  refine g_ifz X dX3_set_6 (tgt := 22) (by decide) (fun e0 => fail (by unfold setG; rw [e0]; rfl)) (fun e0 => ?_)
  have ha : 0 ≤ a ∧ a < 5 := by have := of_decide_eq_true e0; omega
  refine g_iload_n X 2 dX3_set_9 rfl rfl ?_
  refine g_iconst X dX3_set_10 ?_
  refine g_ms X E dX3_set_11 ?_
  refine g_iload_n X 1 dX3_set_14 rfl rfl ?_
  refine g_msld X E ha (fMS_at ha) dX3_set_15 ?_
  refine g_callSi X (st := []) [iv b, iv 0, iv (mostS a)] (mc_x_within (p_within rb (by decide) (by unfold R32; omega))) cal_X3_within wm_X3_44 (by decide) rfl rfl ⟨by decide, by decide⟩ rfl (Nat.le_of_ble_eq_true rfl) dX3_set_16 ?_
  cases e1 : decide (0 ≤ b ∧ b ≤ mostS a)
  · exact g_if_ne X (Y := none) (Z := some ()) (v := ()) rfl dX3_set_19 (tgt := 24) (by decide) (fun h => by cases h) (fun _ => fail (by unfold setG; rw [e0, e1]; rfl))
  · exact g_if_ne X (Y := some ()) (Z := none) (v := ()) rfl dX3_set_19 (tgt := 24) (by decide) (fun _ => good (by unfold setG; rw [e0, e1]; rfl) ha) (fun h => by cases h)
theorem q_mostOf {a : Int} (ra : R32 a) {w : Wd} : m_mostOf a w = some (mostS a, w) := by
  unfold m_mostOf mostS
  rw [wr_id ra.1 ra.2, show wr 1 = 1 from rfl, show wr 2 = 2 from rfl]
  split
  · rfl
  · split
    · rfl
    · split <;> rfl
theorem a_set {w : Wd} (h : Rel w) {a b : Int} (ra : R32 a) (rb : R32 b) : Agree (x_set a b) (m_set a b) w := by
  have hm := mostS_bd a
  have rm : R32 (mostS a) := by unfold R32; omega
  have eM : ∀ u : Wd, m_set a b u = if setG a b = true then (if 0 ≤ a ∧ a < 5 then some (u 28 a.toNat, wset (wset u 26 10 0) 28 a.toNat b) else none) else some (-1, wset u 26 10 0) := fun u => by
    unfold m_set setG
    rw [p_in ra (by decide) (by decide)]
    simp only [Option.bind_some]
    rw [q_mostOf ra]
    simp only [Option.bind_some]
    rw [p_in rb (by decide) rm]
    simp only [Option.bind_some, wr_bz]
    cases decide (0 ≤ a ∧ a ≤ 4)
    · rfl
    · cases decide (0 ≤ b ∧ b ≤ mostS a)
      · rfl
      · by_cases c : 0 ≤ a ∧ a < 5
        · simp only [c, and_self, if_true]
          rfl
        · simp only [c, if_false]
          rfl
  by_cases c : setG a b = true
  · have cc := c
    unfold setG at cc
    simp only [Bool.and_eq_true, decide_eq_true_eq] at cc
    refine ⟨w 4 a.toNat, wset w 4 a.toNat b, wset (wset (wset w 4 a.toNat b) 26 10 0) 28 a.toNat b, ?_, ?_, ?_⟩
    · unfold x_set
      rw [if_pos c]
    · rw [eM, if_pos c, if_pos (by omega)]
      rw [wset_far 28 (by decide), h.2.2.2.2.1 a cc.1.1 (by omega)]
    · unfold Rel OK OKs OKq OKe RM RMs RMq at h ⊢
      unfold foul at h ⊢
      obtain ⟨⟨c1, c2, c3, c4, c5, c6, c7, c8, c9⟩, ⟨r1, r2, r3, r4, r5, r6, r7, r8, r9⟩⟩ := h
      simp (disch := decide) only [wset_far, wset_here]
      refine ⟨⟨c1, c2, c3, c4, ?_, c6, c7, c8, c9⟩, ⟨r1, r2, r3, ?_, r5, r6, r7, r8, r9⟩⟩
      · have h5 : a = 0 ∨ a = 1 ∨ a = 2 ∨ a = 3 ∨ a = 4 := by omega
        rcases h5 with rfl | rfl | rfl | rfl | rfl
        · have : mostS 0 = 200 := rfl
          simp
          omega
        · have : mostS 1 = 900 := rfl
          simp
          omega
        · have : mostS 2 = 20 := rfl
          simp
          omega
        · have : mostS 3 = 100 := rfl
          simp
          omega
        · have : mostS 4 = 100 := rfl
          simp
          omega
      · intro k k0 k1
        have := r4 k k0 k1
        by_cases e : k.toNat = a.toNat
        · rw [if_pos e, if_pos e]
        · rw [if_neg e, if_neg e]; exact this
  · refine ⟨-1, w, wset w 26 10 0, ?_, ?_, Rel_t h 0⟩
    · unfold x_set
      rw [if_neg c]
    · rw [eM, if_neg c]

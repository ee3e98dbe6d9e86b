/-! A method's contract over the world, its calls, its entry and its ends. -/
def aF (ad : Nat → Nat) (N sz : Nat) : Nat → Prop := fun q => (∃ c, c < N ∧ q = ad c) ∨ sz ≤ q
def Qm (D : CX) (lay : List Kd) (ad : Nat → Nat) (r : Option Value) (w' : Wd) (sz : Nat) : Array Value → State → Outcome → State → Prop := fun _ st oc t => oc = .returned r ∧ va_P D.1 vwCl (cws D ad w' 0 lay) t.heap ∧ va_F (aF ad lay.length sz) st t
def Pm (D : CX) (lay : List Kd) (ad : Nat → Nat) (av : List Value) (w : Wd) (sz : Nat) : Array Value → State → Prop := va_Pc av (fun U => U.heap.size = sz ∧ va_P D.1 vwCl (cws D ad w 0 lay) U.heap ∧ va_K D.1 vwCl (tyl D) U ∧ va_D (fun _ => True) (cws D ad w 0 lay))
def Mc (l : Launch) (y : MethodName) (cc : ByteArray) (mL : Nat) (ret : Option FieldType) (rm : Room) (D : CX) (lay : List Kd) (ad : Nat → Nat) (av : List Value) (w : Wd) (r : Option Value) (w' : Wd) (mc ms : Nat) : Prop :=
  ∀ sz, Met l y (Cond.code y cc mL ret :: Wu) rm (Pm D lay ad av w sz) (Qm D lay ad r w' sz) mc ms (aF ad lay.length sz)
def gQ (κ : KX) (D : CX) (lay : List Kd) (ad : Nat → Nat) (ret : Option FieldType) (r : Option Value) (w' : Wd) (mc ms : Nat) : Prop := match κ with
  | (_, _, _, _, s, _, args, below, meth, _, Q, A, H0, _) => ∃ sz, meth.sig.returnType = ret ∧ Q = MQ below (Qm D lay ad r w' sz) args s mc ms (aF ad lay.length sz) ∧ A = aF ad lay.length sz ∧ H0 = s.heap
theorem cws_D {D : CX} {ad : Nat → Nat} {w w' : Wd} {lay : List Kd} {A : Nat → Prop} (h : va_D A (cws D ad w 0 lay)) : va_D A (cws D ad w' 0 lay) := by
  have key : ∀ (i : Nat) (q : Nat × va_E), (cws D ad w' 0 lay)[i]? = some q → ∃ q', (cws D ad w 0 lay)[i]? = some q' ∧ q'.1 = q.1 := by
    intro i q hq
    obtain ⟨h1, h2⟩ := cws_in hq
    obtain ⟨k, hk⟩ : ∃ k, lay[i]? = some k := ⟨_, List.getElem?_eq_getElem h1⟩
    exact ⟨_, cws_at0 hk, by rw [h2, Nat.zero_add]⟩
  refine ⟨fun i j p q hp hq hpq => ?_, fun k q hq => ?_⟩
  · obtain ⟨p', h1, h2⟩ := key i p hp
    obtain ⟨q', h3, h4⟩ := key j q hq
    exact h.1 i j p' q' h1 h3 (by rw [h2, h4]; exact hpq)
  · obtain ⟨q', h1, h2⟩ := key k q hq
    rw [← h2]
    exact h.2 k q' h1
theorem cws_A {D : CX} {ad : Nat → Nat} {w : Wd} {lay : List Kd} {A : Nat → Prop} {H0 H : Heap} {locs : List Loc} (h : va_D A (cws D ad w 0 lay)) (hS : va_S A H0 H locs) (hA : ∀ q, H0.size ≤ q → A q) (q : Nat) (hq : aF ad lay.length H.size q) : A q := by
  rcases hq with ⟨c, hc, rfl⟩ | hq
  · obtain ⟨k, hk⟩ : ∃ k, lay[c]? = some k := ⟨_, List.getElem?_eq_getElem hc⟩
    exact h.2 c _ (cws_at0 hk)
  · exact hA q (Nat.le_trans hS.1 hq)
theorem Pm_blind {D : CX} {lay : List Kd} {ad : Nat → Nat} {av : List Value} {w : Wd} {sz : Nat} : FrameBlind (Pm D lay ad av w sz) := fun a U g mk q => by
  obtain ⟨q0, q1, qP, qK, qD⟩ := q
  exact ⟨q0, q1, qP, va_K.moved (u := U) (U := U.calling g mk a) (Vm.Alike.refl U.vm) qK, qD⟩
/-- a callee that is a method of its object's own, by its words -/
def CalV (y : MethodName) (cc : ByteArray) (mL : Nat) (ret : Option FieldType) (n : Nat) : Prop := Cond.instanceMethod y ∈ Wu ∧ Cond.selects y.cls y y ∈ Wu ∧ Cond.initialized y.cls ∈ Wu ∧ Cond.code y cc mL ret ∈ Wu ∧ (y.cls ≠ "java/lang/invoke/MethodHandle" ∧ y.cls ≠ "java/lang/invoke/VarHandle" ∧ (parseMethodDescriptor y.desc).map (fun d => d.parameters.length) = some n)
def CalS (y : MethodName) (cc : ByteArray) (mL : Nat) (ret : Option FieldType) (n : Nat) : Prop := Cond.static y ∈ Wu ∧ Cond.initialized y.cls ∈ Wu ∧ Cond.code y cc mL ret ∈ Wu ∧ (y.cls ≠ "java/lang/invoke/MethodHandle" ∧ y.cls ≠ "java/lang/invoke/VarHandle" ∧ (parseMethodDescriptor y.desc).map (fun d => d.parameters.length) = some n)
section Calls
variable {κ : KX} {D : CX} {lay : List Kd} {ad : Nat → Nat} {n1 n2 : Nat} {w : Wd} {pc : Nat} {ls : List (Nat × Value)} {st : List Value} {cc : ByteArray} {own : String} {rm : Room} {lc : Launch} {L : Nat}
theorem g_run {p : Program} {l : Launch} {e : Env} {R : Room} {s : State} {m : MethodId} {args : Array Value} {below : List Frame} {meth : Method} {c : Code} {Q : State → Prop} {A : Nat → Prop} {H0 : Heap} {H : Heap} {locs : List Loc} {la : Array Slot} {nL mc ms : Nat} {rest stk : List Value} {a : Array Value} {r : Option Value} {w' : Wd}
    (hr : va_Run p l e R s m args below meth c H locs n1 n2 mc ms (F0 m pc la stk) rest (Qm D lay ad r w' H.size a) (aF ad lay.length H.size))
    (hA : ∀ q, H0.size ≤ q → A q) (hD : va_D A (cws D ad w 0 lay)) (hS : va_S A H0 H locs) (hl : lv_has la nL ls)
    (k : G (p, l, e, R, s, m, args, below, meth, c, Q, A, H0, nL) D lay ad (n1 + mc) (n2 + ms) w' (pc + 3) ls (r.toList ++ rest)) : W p l e R s m args below meth c H locs n1 n2 Q (F0 m pc la stk) := by
  intro T hT X
  obtain ⟨v, st₀, t, T', L, h0, X', hL, e1, e2, ⟨hv, hP1, hz, hk⟩, stp⟩ := hr T hT X
  cases hv
  rw [h0] at hz hk
  have hF := cws_A hD hS hA
  obtain ⟨t2, a1, b1⟩ := k T'.heap (locs ++ L) la (by rw [e1]; exact hP1) (cws_D hD)
    ⟨Nat.le_trans hS.1 (by rw [e1]; exact hz), fun q h1 h2 => by rw [e1, hk q (Nat.lt_of_lt_of_le h1 hS.1) (fun z => h2 (hF q z))]; exact hS.2.1 q h1 h2, fun q hq => by
      rcases List.mem_append.mp hq with h | h
      · exact hS.2.2 q h
      · exact hF _ (hL q h)⟩ hl T' rfl X'
  exact ⟨t2, stp t2 a1, b1⟩
theorem g_callV (X : gX κ D cc own rm lc L) {y : MethodName} {bytes : ByteArray} {mL mc ms ci index N : Nat} {ret : Option FieldType} {rm1 : Room} {stk : List Value} {r : Option Value} {w' : Wd} {fs : List (Option (Option Nat))} {T : u_T}
    (c : Nat) (av : List Value) (hM : Mc lc y bytes mL ret rm1 D lay ad (.ref (ad c) :: av) w r w' mc ms) (hV : CalV y bytes mL ret av.length)
    (hc : lay[c]? = some (.inr (ci, fs))) (hci : vwCl[ci]? = some (y.cls, T, N)) (hw : Cond.methodLink own index y ∈ Wu) (hR : rm1.frames + 1 ≤ rm.frames ∧ 8 + (mL + 11) + rm1.locals ≤ rm.locals) (hmc : rm1.cells = mc) (hms : rm1.slots = ms) (hf : n1 + mc ≤ rm.cells ∧ n2 + ms ≤ rm.slots)
    (hst : stk = av.reverse ++ .ref (ad c) :: st) (hcat : (st.map fun v => v.category).sum ≤ 8) (hd : decode cc pc = .ok (.invokevirtual index, 3))
    (k : G κ D lay ad (n1 + mc) (n2 + ms) w' (pc + 3) ls (r.toList ++ st)) : G κ D lay ad n1 n2 w pc ls stk := by
  obtain ⟨p, l, e0, R, s, m, args, below, meth, cd, Q, A, H0, nL⟩ := κ
  obtain ⟨hx, hb, hml, hown, hts, hK, hlocks, hA, rfl, rfl, rfl⟩ := X
  intro H locs la hP hD hS hl
  obtain ⟨v1, v2, v3, v4, v5⟩ := hV
  exact g_run (va_runV (As := av) (rest := st) ⟨hx, hb, hml, hown, hts⟩ (hM H.size) ⟨callB_of av.length hts (wu_good _ _ _ _ v4) rfl hmc hms (hts _ v3) (hts _ hw) v5 hR, hts _ v1, hts _ v2⟩
    ⟨Pm_blind, va_recv hK hP hci (cws_at0 hc), fun U hU hW => ⟨rfl, by rw [hU], by rw [hU]; exact hP, va_K.moved hW.alike hK, hD.weaken (fun _ _ _ _ => trivial)⟩⟩ rfl rfl hl.1 hst (lv_room hcat) hd hf) hA hD hS hl k
theorem g_callS (X : gX κ D cc own rm lc L) {y : MethodName} {bytes : ByteArray} {mL mc ms index : Nat} {ret : Option FieldType} {rm1 : Room} {stk : List Value} {r : Option Value} {w' : Wd}
    (av : List Value) (hM : Mc lc y bytes mL ret rm1 D lay ad av w r w' mc ms) (hV : CalS y bytes mL ret av.length)
    (hw : Cond.methodLink own index y ∈ Wu) (hR : rm1.frames + 1 ≤ rm.frames ∧ 8 + (mL + 11) + rm1.locals ≤ rm.locals) (hmc : rm1.cells = mc) (hms : rm1.slots = ms) (hf : n1 + mc ≤ rm.cells ∧ n2 + ms ≤ rm.slots)
    (hst : stk = av.reverse ++ st) (hcat : (st.map fun v => v.category).sum ≤ 8) (hd : decode cc pc = .ok (.invokestatic index, 3))
    (k : G κ D lay ad (n1 + mc) (n2 + ms) w' (pc + 3) ls (r.toList ++ st)) : G κ D lay ad n1 n2 w pc ls stk := by
  obtain ⟨p, l, e0, R, s, m, args, below, meth, cd, Q, A, H0, nL⟩ := κ
  obtain ⟨hx, hb, hml, hown, hts, hK, hlocks, hA, rfl, rfl, rfl⟩ := X
  intro H locs la hP hD hS hl
  obtain ⟨v1, v3, v4, v5⟩ := hV
  exact g_run (va_runS (As := av) (rest := st) ⟨hx, hb, hml, hown, hts⟩ (hM H.size) ⟨callB_of av.length hts (wu_good _ _ _ _ v4) rfl hmc hms (hts _ v3) (hts _ hw) v5 hR, hts _ v1⟩
    ⟨Pm_blind, fun U hU hW => ⟨rfl, by rw [hU], by rw [hU]; exact hP, va_K.moved hW.alike hK, hD.weaken (fun _ _ _ _ => trivial)⟩⟩ rfl rfl hl.1 hst (lv_room hcat) hd hf) hA hD hS hl k
/-- the entry of a method -/
theorem mc_of {y : MethodName} {mL mc ms : Nat} {ret : Option FieldType} {av : List Value} {r : Option Value} {w' : Wd} (hy : plainName y.cls = true) (hlen : (lg_sl av).length ≤ mL)
    (body : ∀ κ : KX, gX κ D cc y.cls rm lc mL → gQ κ D lay ad ret r w' mc ms → G κ D lay ad 0 0 w 0 (lv_args 0 av) []) : Mc lc y cc mL ret rm D lay ad av w r w' mc ms := by
  intro sz
  refine Met.ofW (cc := cc) (maxL := mL) (ret := ret) hy rfl ?_
  intro p e s m args below meth c s₁ B hml hv
  obtain ⟨rfl, hsz, hP, hK, hD⟩ := hv
  have hts := atoms_spec (ws := Cond.code y cc mL ret :: Wu) B.pre
  have hl := lv_entry av (n := mL) hlen
  rw [lg_entry_eq]
  generalize (lg_sl av ++ List.replicate (mL - (lg_sl av).length) Slot.unset).toArray = la at hl ⊢
  exact body (p, lc, e, rm, s, m, av.toArray, below, meth, c, _, aF ad lay.length sz, s.heap, mL)
    ⟨B.exec, B.bytes, hml, findClass_of_methodNamed B.named, fun w hw => hts w (List.mem_cons_of_mem _ hw), hK, B.notSynchronized, fun q h => Or.inr (by rw [← hsz]; exact h), rfl, rfl, rfl⟩
    ⟨sz, B.returns, rfl, rfl, rfl⟩ s.heap [] la hP ⟨hD.1, fun k q hq => by
      obtain ⟨h1, h2⟩ := cws_in hq
      exact Or.inl ⟨k, h1, by rw [h2, Nat.zero_add]⟩⟩ va_S.rf hl
theorem g_iret (X : gX κ D cc own rm lc L) {x : Int} {v : Int × Wd} (Z : gQ κ D lay ad (some .int) (some (iv v.1)) v.2 n1 n2) (h : some (x, w) = some v) (hd : decode cc pc = .ok (.ireturn, 1)) : G κ D lay ad n1 n2 w pc ls [iv x] := by
  obtain ⟨p, l, e0, R, s, m, args, below, meth, cd, Q, A, H0, nL⟩ := κ
  obtain ⟨hx, hb, hml, hown, hts, hK, hlocks, hA, rfl, rfl, rfl⟩ := X
  obtain ⟨sz, hr, rfl, rfl, rfl⟩ := Z
  cases h
  exact fun H locs la hP hD hS hl => W.iret hx hb hr (fun t ht hW => ⟨rfl, by rw [ht]; exact hP, hS.F ht⟩) hS.2.2 hd
theorem g_zretC (X : gX κ D cc own rm lc L) {x : Int} {v : Int × Wd} (Z : gQ κ D lay ad (some .boolean) (some (iv v.1)) v.2 n1 n2) (h : some (x, w) = some v) (hz : x = 0 ∨ x = 1) (hd : decode cc pc = .ok (.ireturn, 1)) : G κ D lay ad n1 n2 w pc ls [iv x] := by
  obtain ⟨p, l, e0, R, s, m, args, below, meth, cd, Q, A, H0, nL⟩ := κ
  obtain ⟨hx, hb, hml, hown, hts, hK, hlocks, hA, rfl, rfl, rfl⟩ := X
  obtain ⟨sz, hr, rfl, rfl, rfl⟩ := Z
  cases h
  exact fun H locs la hP hD hS hl => W.zret hx hb hr (by rcases hz with rfl | rfl <;> rfl) (fun t ht hW => ⟨rfl, by rw [ht]; exact hP, hS.F ht⟩) hS.2.2 hd
theorem g_zret (X : gX κ D cc own rm lc L) {x : Int} {v : Int × Wd} (Z : gQ κ D lay ad (some .boolean) (some (iv v.1)) v.2 n1 n2) (h : (if x = 0 ∨ x = 1 then some (x, w) else none) = some v) (hd : decode cc pc = .ok (.ireturn, 1)) : G κ D lay ad n1 n2 w pc ls [iv x] := by
  by_cases hz : x = 0 ∨ x = 1
  · rw [if_pos hz] at h
    exact g_zretC X Z h hz hd
  · rw [if_neg hz] at h
    cases h
theorem g_lret (X : gX κ D cc own rm lc L) {x : Int} {v : Int × Wd} (Z : gQ κ D lay ad (some .long) (some (jv v.1)) v.2 n1 n2) (h : some (x, w) = some v) (hd : decode cc pc = .ok (.lreturn, 1)) : G κ D lay ad n1 n2 w pc ls [jv x] := by
  obtain ⟨p, l, e0, R, s, m, args, below, meth, cd, Q, A, H0, nL⟩ := κ
  obtain ⟨hx, hb, hml, hown, hts, hK, hlocks, hA, rfl, rfl, rfl⟩ := X
  obtain ⟨sz, hr, rfl, rfl, rfl⟩ := Z
  cases h
  exact fun H locs la hP hD hS hl => W.lret hx hb hr (fun t ht hW => ⟨rfl, by rw [ht]; exact hP, hS.F ht⟩) hS.2.2 hd
theorem g_vret (X : gX κ D cc own rm lc L) {x : Int} {v : Int × Wd} (Z : gQ κ D lay ad none none v.2 n1 n2) (h : some (x, w) = some v) (hd : decode cc pc = .ok (.return_, 1)) : G κ D lay ad n1 n2 w pc ls [] := by
  obtain ⟨p, l, e0, R, s, m, args, below, meth, cd, Q, A, H0, nL⟩ := κ
  obtain ⟨hx, hb, hml, hown, hts, hK, hlocks, hA, rfl, rfl, rfl⟩ := X
  obtain ⟨sz, hr, rfl, rfl, rfl⟩ := Z
  cases h
  exact fun H locs la hP hD hS hl => W.vret hx hb hr (fun t ht hW => ⟨rfl, by rw [ht]; exact hP, hS.F ht⟩) hS.2.2 hd
end Calls
theorem bindE {α β : Type} {F : Option α} {K : α → Option β} {v : β} (h : F.bind K = some v) : ∃ q, F = some q ∧ K q = some v := by
  cases F with
  | none => cases h
  | some q => exact ⟨q, rfl, h⟩
noncomputable def FU : Nat := Classical.choose (show ∃ n : Nat, 1000000 ≤ n from ⟨1000000, Nat.le_refl _⟩)
theorem FU_big : 1000000 ≤ FU := Classical.choose_spec (show ∃ n : Nat, 1000000 ≤ n from ⟨1000000, Nat.le_refl _⟩)
section Calls2
variable {κ : KX} {D : CX} {lay : List Kd} {ad : Nat → Nat} {n1 n2 : Nat} {w : Wd} {pc : Nat} {ls : List (Nat × Value)} {st : List Value} {cc : ByteArray} {own : String} {rm : Room} {lc : Launch} {L : Nat}
theorem g_callVi (X : gX κ D cc own rm lc L) {y : MethodName} {bytes : ByteArray} {mL ci index N : Nat} {ret : Option FieldType} {rm1 : Room} {stk : List Value} {x : Int} {w' : Wd} {fs : List (Option (Option Nat))} {T : u_T} (c : Nat) (av : List Value) (hM : Mc lc y bytes mL ret rm1 D lay ad (.ref (ad c) :: av) w (some (iv x)) w' 0 0) (hV : CalV y bytes mL ret av.length) (hc : lay[c]? = some (.inr (ci, fs))) (hci : vwCl[ci]? = some (y.cls, T, N)) (hw : Cond.methodLink own index y ∈ Wu) (hR : rm1.frames + 1 ≤ rm.frames ∧ 8 + (mL + 11) + rm1.locals ≤ rm.locals) (hmc : rm1.cells = 0) (hms : rm1.slots = 0) (hf : n1 ≤ rm.cells ∧ n2 ≤ rm.slots) (hst : stk = av.reverse ++ .ref (ad c) :: st) (hcat : (st.map fun v => v.category).sum ≤ 8) (hd : decode cc pc = .ok (.invokevirtual index, 3)) (k : G κ D lay ad n1 n2 w' (pc + 3) ls (iv x :: st)) : G κ D lay ad n1 n2 w pc ls stk := g_callV X c av hM hV hc hci hw hR hmc hms hf hst hcat hd k
theorem g_callSi (X : gX κ D cc own rm lc L) {y : MethodName} {bytes : ByteArray} {mL index : Nat} {ret : Option FieldType} {rm1 : Room} {stk : List Value} {x : Int} {w' : Wd} (av : List Value) (hM : Mc lc y bytes mL ret rm1 D lay ad av w (some (iv x)) w' 0 0) (hV : CalS y bytes mL ret av.length) (hw : Cond.methodLink own index y ∈ Wu) (hR : rm1.frames + 1 ≤ rm.frames ∧ 8 + (mL + 11) + rm1.locals ≤ rm.locals) (hmc : rm1.cells = 0) (hms : rm1.slots = 0) (hf : n1 ≤ rm.cells ∧ n2 ≤ rm.slots) (hst : stk = av.reverse ++ st) (hcat : (st.map fun v => v.category).sum ≤ 8) (hd : decode cc pc = .ok (.invokestatic index, 3)) (k : G κ D lay ad n1 n2 w' (pc + 3) ls (iv x :: st)) : G κ D lay ad n1 n2 w pc ls stk := g_callS X av hM hV hw hR hmc hms hf hst hcat hd k
theorem g_callVl (X : gX κ D cc own rm lc L) {y : MethodName} {bytes : ByteArray} {mL ci index N : Nat} {ret : Option FieldType} {rm1 : Room} {stk : List Value} {x : Int} {w' : Wd} {fs : List (Option (Option Nat))} {T : u_T} (c : Nat) (av : List Value) (hM : Mc lc y bytes mL ret rm1 D lay ad (.ref (ad c) :: av) w (some (jv x)) w' 0 0) (hV : CalV y bytes mL ret av.length) (hc : lay[c]? = some (.inr (ci, fs))) (hci : vwCl[ci]? = some (y.cls, T, N)) (hw : Cond.methodLink own index y ∈ Wu) (hR : rm1.frames + 1 ≤ rm.frames ∧ 8 + (mL + 11) + rm1.locals ≤ rm.locals) (hmc : rm1.cells = 0) (hms : rm1.slots = 0) (hf : n1 ≤ rm.cells ∧ n2 ≤ rm.slots) (hst : stk = av.reverse ++ .ref (ad c) :: st) (hcat : (st.map fun v => v.category).sum ≤ 8) (hd : decode cc pc = .ok (.invokevirtual index, 3)) (k : G κ D lay ad n1 n2 w' (pc + 3) ls (jv x :: st)) : G κ D lay ad n1 n2 w pc ls stk := g_callV X c av hM hV hc hci hw hR hmc hms hf hst hcat hd k
theorem g_callSl (X : gX κ D cc own rm lc L) {y : MethodName} {bytes : ByteArray} {mL index : Nat} {ret : Option FieldType} {rm1 : Room} {stk : List Value} {x : Int} {w' : Wd} (av : List Value) (hM : Mc lc y bytes mL ret rm1 D lay ad av w (some (jv x)) w' 0 0) (hV : CalS y bytes mL ret av.length) (hw : Cond.methodLink own index y ∈ Wu) (hR : rm1.frames + 1 ≤ rm.frames ∧ 8 + (mL + 11) + rm1.locals ≤ rm.locals) (hmc : rm1.cells = 0) (hms : rm1.slots = 0) (hf : n1 ≤ rm.cells ∧ n2 ≤ rm.slots) (hst : stk = av.reverse ++ st) (hcat : (st.map fun v => v.category).sum ≤ 8) (hd : decode cc pc = .ok (.invokestatic index, 3)) (k : G κ D lay ad n1 n2 w' (pc + 3) ls (jv x :: st)) : G κ D lay ad n1 n2 w pc ls stk := g_callS X av hM hV hw hR hmc hms hf hst hcat hd k
theorem g_callVv (X : gX κ D cc own rm lc L) {y : MethodName} {bytes : ByteArray} {mL ci index N : Nat} {ret : Option FieldType} {rm1 : Room} {stk : List Value} {w' : Wd} {fs : List (Option (Option Nat))} {T : u_T} (c : Nat) (av : List Value) (hM : Mc lc y bytes mL ret rm1 D lay ad (.ref (ad c) :: av) w none w' 0 0) (hV : CalV y bytes mL ret av.length) (hc : lay[c]? = some (.inr (ci, fs))) (hci : vwCl[ci]? = some (y.cls, T, N)) (hw : Cond.methodLink own index y ∈ Wu) (hR : rm1.frames + 1 ≤ rm.frames ∧ 8 + (mL + 11) + rm1.locals ≤ rm.locals) (hmc : rm1.cells = 0) (hms : rm1.slots = 0) (hf : n1 ≤ rm.cells ∧ n2 ≤ rm.slots) (hst : stk = av.reverse ++ .ref (ad c) :: st) (hcat : (st.map fun v => v.category).sum ≤ 8) (hd : decode cc pc = .ok (.invokevirtual index, 3)) (k : G κ D lay ad n1 n2 w' (pc + 3) ls st) : G κ D lay ad n1 n2 w pc ls stk := g_callV X c av hM hV hc hci hw hR hmc hms hf hst hcat hd k
theorem g_callSv (X : gX κ D cc own rm lc L) {y : MethodName} {bytes : ByteArray} {mL index : Nat} {ret : Option FieldType} {rm1 : Room} {stk : List Value} {w' : Wd} (av : List Value) (hM : Mc lc y bytes mL ret rm1 D lay ad av w none w' 0 0) (hV : CalS y bytes mL ret av.length) (hw : Cond.methodLink own index y ∈ Wu) (hR : rm1.frames + 1 ≤ rm.frames ∧ 8 + (mL + 11) + rm1.locals ≤ rm.locals) (hmc : rm1.cells = 0) (hms : rm1.slots = 0) (hf : n1 ≤ rm.cells ∧ n2 ≤ rm.slots) (hst : stk = av.reverse ++ st) (hcat : (st.map fun v => v.category).sum ≤ 8) (hd : decode cc pc = .ok (.invokestatic index, 3)) (k : G κ D lay ad n1 n2 w' (pc + 3) ls st) : G κ D lay ad n1 n2 w pc ls stk := g_callS X av hM hV hw hR hmc hms hf hst hcat hd k
end Calls2

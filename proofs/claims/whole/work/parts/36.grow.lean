/-! Worlds that grow: new cells, a field that gets its cell, the constructors' contract. -/
def wz (w : Wd) (c : Nat) : Wd := fun a b => if a = c then 0 else w a b
def fB (n : Nat) (f : Option (Option Nat)) : Bool := match f with
  | some (some c) => decide (c < n)
  | _ => true
def kB (n : Nat) (k : Kd) : Bool := match k with
  | .inl _ => true
  | .inr (_, fs) => fs.all (fB n)
def layB (n : Nat) (lay : List Kd) : Bool := lay.all (kB n)
theorem kf_ad {ad ad' : Nat → Nat} {u : Nat → Int} {n : Nat} (h : ∀ c, c < n → ad' c = ad c) : ∀ {fs : List (Option (Option Nat))} {i : Nat}, fs.all (fB n) = true → kf ad' u i fs = kf ad u i fs
  | [], _, _ => rfl
  | f :: t, i, hb => by
    rw [List.all_cons, Bool.and_eq_true] at hb
    have e := kf_ad h (u := u) (i := i + 1) hb.2
    rcases f with _ | _ | c
    · simp only [kf, e]
    · simp only [kf, e]
    · have hc : c < n := by have := hb.1; simpa [fB] using this
      simp only [kf, e, h c hc]
theorem ke_ad {D : CX} {ad ad' : Nat → Nat} {u : Nat → Int} {n : Nat} (h : ∀ c, c < n → ad' c = ad c) {k : Kd} (hb : kB n k = true) : ke D ad' u k = ke D ad u k := by
  rcases k with ⟨t, m⟩ | ⟨ci, fs⟩
  · rcases t with _ | _ | t <;> rfl
  · show Sum.inr (ci, kf ad' u 0 fs) = Sum.inr (ci, kf ad u 0 fs)
    rw [kf_ad h hb]
theorem cws_ad {D : CX} {ad ad' : Nat → Nat} {w : Wd} {n : Nat} (h : ∀ c, c < n → ad' c = ad c) : ∀ {lay : List Kd} {i : Nat}, layB n lay = true → i + lay.length ≤ n → cws D ad' w i lay = cws D ad w i lay
  | [], _, _, _ => rfl
  | k :: t, i, hb, hl => by
    unfold layB at hb
    rw [List.all_cons, Bool.and_eq_true] at hb
    rw [List.length_cons] at hl
    simp only [cws]
    rw [cws_ad h hb.2 (by omega), ke_ad h hb.1, h i (by omega)]
theorem cws_lt {D : CX} {ad : Nat → Nat} {w w' : Wd} : ∀ {lay : List Kd} {i : Nat}, (∀ a, a < i + lay.length → w' a = w a) → cws D ad w' i lay = cws D ad w i lay
  | [], _, _ => rfl
  | x :: t, i, h => by
    rw [List.length_cons] at h
    simp only [cws]
    rw [h i (by omega), cws_lt (fun a ha => h a (by omega))]
theorem cws_app {D : CX} {ad : Nat → Nat} {w : Wd} {k : Kd} : ∀ {lay : List Kd} {i : Nat}, cws D ad w i (lay ++ [k]) = cws D ad w i lay ++ [(ad (i + lay.length), ke D ad (w (i + lay.length)) k)]
  | [], i => rfl
  | x :: t, i => by
    rw [List.cons_append]
    simp only [cws, List.cons_append, List.length_cons]
    rw [cws_app, show i + 1 + t.length = i + (t.length + 1) by omega]
def adx (ad : Nat → Nat) (n q : Nat) : Nat → Nat := fun c => if c = n then q else ad c
theorem adx_n (ad : Nat → Nat) (n q : Nat) : adx ad n q n = q := if_pos rfl
theorem adx_lt {ad : Nat → Nat} {n q : Nat} (c : Nat) (h : c < n) : adx ad n q c = ad c := if_neg (by omega)
theorem wz_n (w : Wd) (n : Nat) : wz w n n = fun _ => 0 := by funext b; simp [wz]
theorem wz_lt {w : Wd} {n : Nat} (a : Nat) (h : a < n) : wz w n a = w a := by funext b; simp [wz, show a ≠ n by omega]
theorem cws_grow {D : CX} {ad : Nat → Nat} {w : Wd} {lay : List Kd} {k : Kd} {q : Nat} {e : va_E} (hB : layB lay.length lay = true) (he : ke D (adx ad lay.length q) (fun _ => 0) k = e) : cws D ad w 0 lay ++ [(q, e)] = cws D (adx ad lay.length q) (wz w lay.length) 0 (lay ++ [k]) := by
  rw [cws_app, Nat.zero_add, adx_n, wz_n, he, cws_ad (fun c hc => adx_lt c hc) hB (by omega), cws_lt (w := w) (fun a ha => wz_lt a (by omega))]
theorem cws_setL {D : CX} {ad : Nat → Nat} {w : Wd} {k : Kd} : ∀ {lay : List Kd} {i c : Nat}, (cws D ad w i lay).set c (ad (i + c), ke D ad (w (i + c)) k) = cws D ad w i (lay.set c k)
  | [], _, _ => rfl
  | x :: t, i, 0 => rfl
  | x :: t, i, c + 1 => by
    simp only [cws, List.set_cons_succ]
    rw [show i + (c + 1) = i + 1 + c by omega, cws_setL]
theorem kf_setR {ad : Nat → Nat} {u : Nat → Int} {c : Nat} : ∀ {fs : List (Option (Option Nat))} {i k : Nat}, (kf ad u i fs).set k (.ref (ad c)) = kf ad u i (fs.set k (some (some c)))
  | [], _, _ => rfl
  | x :: t, i, 0 => by rcases x with _ | _ | d <;> rfl
  | x :: t, i, k + 1 => by
    have e := kf_setR (ad := ad) (u := u) (c := c) (fs := t) (i := i + 1) (k := k)
    rcases x with _ | _ | d <;> simp only [kf, List.set_cons_succ, e]
def gN (κ : KX) : Prop := match κ with
  | (_, _, _, _, _, _, _, _, meth, _, _, _, _, _) => meth.name = "<init>"
section Grow
variable {κ : KX} {D : CX} {lay : List Kd} {ad : Nat → Nat} {n1 n2 : Nat} {w : Wd} {pc : Nat} {ls : List (Nat × Value)} {st : List Value} {cc : ByteArray} {own : String} {rm : Room} {lc : Launch} {L : Nat}
theorem g_newaG (X : gX κ D cc own rm lc L) {t : ArrayType} {kd N j : Nat} {x : Int} {ty : FieldType} {a0 : vp_A} {cA0 : ClassId} (hty : newarray.typeOf t = ty) (hj : (tyl D)[j]? = some (cA0, ty)) (hRA : ∀ (U : State) (cA : ClassId), va_RA U cA ty → U.vm.findClass ("[" ++ ty.toString) = some cA) (ha : ∀ cA : ClassId, vp_cell cA a0 = arrV cA N (fun _ => defaultValue ty)) (hke : ∀ ad' : Nat → Nat, ke D ad' (fun _ => 0) (.inl (kd, N)) = .inl (cA0, a0)) (harr : Cond.arrayClass ty ∈ Wu) (hB : layB lay.length lay = true) (hxN : x = (N : Int)) (hN : N ≤ 2147483647) (hbytes : N * componentBytes ty ≤ 536870912) (hcells : n1 + 1 ≤ rm.cells) (hslots : n2 + N ≤ rm.slots) (hd : decode cc pc = .ok (.newarray t, 2))
    (k : ∀ ad' : Nat → Nat, (∀ c, c < lay.length → ad' c = ad c) → G κ D (lay ++ [.inl (kd, N)]) ad' (n1 + 1) (n2 + N) (wz w lay.length) (pc + 2) ls (.ref (ad' lay.length) :: st)) : G κ D lay ad n1 n2 w pc ls (iv x :: st) := by
  obtain ⟨p, l, e0, R, s, m, args, below, meth, cd, Q, A, H0, nL⟩ := κ
  obtain ⟨hx, hb, hml, hown, hts, hK, hlocks, hA, rfl, rfl, rfl⟩ := X
  intro H locs la hP hD hS hl
  subst hxN
  refine va_newa hx hb (by rw [hty]; exact hts _ harr) hty hK hP hD hS hA ha ?_ ?_ hbytes hcells hslots hd (fun q cA H1 hK1 hP1 hD1 hS1 => ?_)
  · intro h
    have := i0lt.mp h
    rw [wr_id (by omega) (by omega)] at this
    omega
  · rw [iN_nat (by omega) (by omega)]; omega
  · have e1 := hRA s cA (hK1.2 3 (cA, ty) rfl).2
    have e2 := hRA s cA0 (hK.2 j (cA0, ty) hj).2
    have e : cA = cA0 := Option.some.inj (e1.symm.trans e2)
    subst e
    rw [cws_grow hB (hke _)] at hP1 hD1
    have := k (adx ad lay.length q) adx_lt H1 locs la hP1 hD1 hS1 hl
    rw [adx_n] at this
    exact this
theorem w_ai : Cond.arrayClass .int ∈ Wu := wq 89 (by decide +kernel) (by decide +kernel)
theorem w_az : Cond.arrayClass .boolean ∈ Wu := wq 173 (by decide +kernel) (by decide +kernel)
theorem w_al : Cond.arrayClass .long ∈ Wu := wq 196 (by decide +kernel) (by decide +kernel)
theorem g_newi (X : gX κ D cc own rm lc L) {N M : Nat} {x : Int} {lay' : List Kd} (hlay : lay' = lay ++ [.inl (0, N)]) (hM : lay.length = M) (hB : layB M lay = true) (hxN : x = (N : Int)) (hN : N ≤ 20000) (hcells : n1 + 1 ≤ rm.cells) (hslots : n2 + N ≤ rm.slots) (hd : decode cc pc = .ok (.newarray .int, 2))
    (k : ∀ ad' : Nat → Nat, (∀ c, c < M → ad' c = ad c) → G κ D lay' ad' (n1 + 1) (n2 + N) (wz w M) (pc + 2) ls (.ref (ad' M) :: st)) : G κ D lay ad n1 n2 w pc ls (iv x :: st) := by
  subst hlay; subst hM
  exact g_newaG X (t := .int) (kd := 0) (N := N) (j := 0) (ty := .int) (a0 := (N, .inl (fun _ => 0))) (cA0 := D.2.1) rfl rfl (fun U cA h => h) (fun cA => rfl) (fun ad' => rfl) w_ai hB hxN (by omega) (by show N * 4 ≤ 536870912; omega) hcells hslots hd k
theorem g_newl (X : gX κ D cc own rm lc L) {N M : Nat} {x : Int} {lay' : List Kd} (hlay : lay' = lay ++ [.inl (1, N)]) (hM : lay.length = M) (hB : layB M lay = true) (hxN : x = (N : Int)) (hN : N ≤ 20000) (hcells : n1 + 1 ≤ rm.cells) (hslots : n2 + N ≤ rm.slots) (hd : decode cc pc = .ok (.newarray .long, 2))
    (k : ∀ ad' : Nat → Nat, (∀ c, c < M → ad' c = ad c) → G κ D lay' ad' (n1 + 1) (n2 + N) (wz w M) (pc + 2) ls (.ref (ad' M) :: st)) : G κ D lay ad n1 n2 w pc ls (iv x :: st) := by
  subst hlay; subst hM
  exact g_newaG X (t := .long) (kd := 1) (N := N) (j := 1) (ty := .long) (a0 := (N, .inr (.inl (fun _ => 0)))) (cA0 := D.2.2.1) rfl rfl (fun U cA h => h) (fun cA => rfl) (fun ad' => rfl) w_al hB hxN (by omega) (by show N * 8 ≤ 536870912; omega) hcells hslots hd k
theorem g_newz (X : gX κ D cc own rm lc L) {N M : Nat} {x : Int} {lay' : List Kd} (hlay : lay' = lay ++ [.inl (2, N)]) (hM : lay.length = M) (hB : layB M lay = true) (hxN : x = (N : Int)) (hN : N ≤ 20000) (hcells : n1 + 1 ≤ rm.cells) (hslots : n2 + N ≤ rm.slots) (hd : decode cc pc = .ok (.newarray .boolean, 2))
    (k : ∀ ad' : Nat → Nat, (∀ c, c < M → ad' c = ad c) → G κ D lay' ad' (n1 + 1) (n2 + N) (wz w M) (pc + 2) ls (.ref (ad' M) :: st)) : G κ D lay ad n1 n2 w pc ls (iv x :: st) := by
  subst hlay; subst hM
  exact g_newaG X (t := .boolean) (kd := 2) (N := N) (j := 2) (ty := .boolean) (a0 := (N, .inl (fun _ => 0))) (cA0 := D.2.2.2) rfl rfl (fun U cA h => h) (fun cA => rfl) (fun ad' => rfl) w_az hB hxN (by omega) (by show N * 1 ≤ 536870912; omega) hcells hslots hd k
theorem g_new (X : gX κ D cc own rm lc L) {C : String} {T : u_T} {N ci index M : Nat} {fs : List (Option (Option Nat))} {vs : List Value} {lay' : List Kd} (ty : Nat → FieldType) (hty : ∀ k, k < N → parseFieldDescriptor (T k).2.2.1 = some (ty k)) (hin : ∀ w ∈ u_ws C T N, w ∈ Wu) (hcl : Cond.classLink own index C ∈ Wu) (hinst : Cond.instantiable C N ∈ Wu) (hini : Cond.initialized C ∈ Wu) (hci : vwCl[ci]? = some (C, T, N)) (hfs : ∀ j, j < N → defaultValue (ty j) = vp_V vs j) (hkf : ∀ ad' : Nat → Nat, kf ad' (fun _ => 0) 0 fs = vs) (hlay : lay' = lay ++ [.inr (ci, fs)]) (hM : lay.length = M) (hB : layB M lay = true) (hcells : n1 + 1 ≤ rm.cells) (hslots : n2 + N ≤ rm.slots) (hd : decode cc pc = .ok (.new index, 3))
    (k : ∀ ad' : Nat → Nat, (∀ c, c < M → ad' c = ad c) → G κ D lay' ad' (n1 + 1) (n2 + N) (wz w M) (pc + 3) ls (.ref (ad' M) :: st)) : G κ D lay ad n1 n2 w pc ls st := by
  subst hlay; subst hM
  obtain ⟨p, l, e0, R, s, m, args, below, meth, cd, Q, A, H0, nL⟩ := κ
  obtain ⟨hx, hb, hml, hown, hts, hK, hlocks, hA, rfl, rfl, rfl⟩ := X
  intro H locs la hP hD hS hl
  refine va_new hx hb hts hin ty hty hown (hts _ hcl) (hts _ hinst) (hts _ hini) hK hP hD hS hA hci hfs hcells hslots hd (fun q H1 hP1 hD1 hS1 => ?_)
  have he : ke D (adx ad lay.length q) (fun _ => 0) (.inr (ci, fs)) = .inr (ci, vs) := by
    show Sum.inr (ci, kf _ _ 0 fs) = _
    rw [hkf]
  rw [cws_grow hB he] at hP1 hD1
  have := k (adx ad lay.length q) adx_lt H1 locs la hP1 hD1 hS1 hl
  rw [adx_n] at this
  exact this
theorem g_putF (X : gX κ D cc own rm lc L) (hnm2 : gN κ) {c ci k0 c1 index N : Nat} {C ref : String} {T : u_T} {lay' : List Kd} {ty : FieldType} (ty0 : Nat → FieldType) (hty : ∀ k, k < N → parseFieldDescriptor (T k).2.2.1 = some (ty0 k)) (hnm : ∀ a, a < N → ∀ b, b < N → a ≠ b → (T a).2.1 ≠ (T b).2.1) {fs : List (Option (Option Nat))} (hc : lay[c]? = some (.inr (ci, fs))) (hci : vwCl[ci]? = some (C, T, N)) (hin : ∀ w ∈ u_ws C T N, w ∈ Wu) (hk : k0 < N) (hkl : k0 < fs.length) (hw : Cond.fieldLink own index ref (T k0).2.1 (T k0).2.2.1 ∈ Wu) (hr : (T k0).1 = ref) (hdecl : (T k0).1 = own) (hfin : (T k0).2.2.2 = true) (hdi : parseFieldDescriptor (T k0).2.2.1 = some ty) (hn : ∀ a : Nat, narrow ty (.ref a) = .ref a) (hfit : ∀ a : Nat, fits ty (.ref a) = true) (hlay : lay' = lay.set c (.inr (ci, fs.set k0 (some (some c1))))) (hd : decode cc pc = .ok (.putfield index, 3)) (k : G κ D lay' ad n1 n2 w (pc + 3) ls (st)) : G κ D lay ad n1 n2 w (pc) ls (.ref (ad c1) :: .ref (ad c) :: st) := by
  subst hlay
  obtain ⟨p, l, e0, R, s, m, args, below, meth, cd, Q, A, H0, nL⟩ := κ
  obtain ⟨hx, hb, hml, hown, hts, hK, hlocks, hA, rfl, rfl, rfl⟩ := X
  intro H locs la hP hD hS hl
  refine va_putF (ty := ty) hx hb hts hin ty0 hty hnm hown hK hP hD hS c (cws_at0 hc) hci k0 hk (hts _ hw) (fun x h => by rw [← hr]; exact h) hfin hnm2 hdecl hdi (hn _) (hfit _) (by rw [kf_len]; exact hkl) hd (fun H1 locs1 hP1 hD1 hS1 => ?_)
  have e := cws_setL (D := D) (ad := ad) (w := w) (k := .inr (ci, fs.set k0 (some (some c1)))) (lay := lay) (i := 0) (c := c)
  rw [Nat.zero_add] at e
  rw [kf_setR] at hP1 hD1
  exact k H1 locs1 la (e ▸ hP1) (e ▸ hD1) hS1 hl
theorem w_oi : Cond.instanceMethod objectInit ∈ Wu := wq 65 (by decide +kernel) (by decide +kernel)
theorem w_oc : Cond.code objectInit ⟨#[0xb1]⟩ 1 none ∈ Wu := wq 66 (by decide +kernel) (by decide +kernel)
theorem g_obj (X : gX κ D cc own rm lc L) {idx a : Nat} (hw : Cond.methodLink own idx objectInit ∈ Wu) (hf : 1 ≤ rm.frames) (hlo : 20 ≤ rm.locals) (hcat : (st.map fun v => v.category).sum ≤ 8) (hd : decode cc pc = .ok (.invokespecial idx, 3)) (k : G κ D lay ad n1 n2 w (pc + 3) ls st) : G κ D lay ad n1 n2 w pc ls (.ref a :: st) := by
  obtain ⟨p, l, e0, R, s, m, args, below, meth, cd, Q, A, H0, nL⟩ := κ
  obtain ⟨hx, hb, hml, hown, hts, hK, hlocks, hA, rfl, rfl, rfl⟩ := X
  intro H locs la hP hD hS hl
  refine W.objInit hx hb hown (hts _ hw) (hts _ w_oi) (hts _ w_oc) rfl (by rw [hml]; exact hl.1) rfl hd hf (Nat.le_trans (Nat.add_le_add_right (lv_room hcat) 12) hlo) ?_
  exact k H locs la hP hD hS hl
/-! the contract of a constructor -/
def Qn (D : CX) (lay' : List Kd) (ad : Nat → Nat) (n : Nat) (w' : Wd) (sz : Nat) : Array Value → State → Outcome → State → Prop := fun _ st oc t => oc = .returned none ∧ (∃ ad' : Nat → Nat, (∀ c, c < n → ad' c = ad c) ∧ va_P D.1 vwCl (cws D ad' w' 0 lay') t.heap ∧ va_D (aF ad n sz) (cws D ad' w' 0 lay')) ∧ va_F (aF ad n sz) st t
def Mn (l : Launch) (y : MethodName) (cc : ByteArray) (mL : Nat) (rm : Room) (D : CX) (lay : List Kd) (ad : Nat → Nat) (av : List Value) (w : Wd) (lay' : List Kd) (w' : Wd) (mc ms : Nat) : Prop :=
  ∀ sz, Met l y (Cond.code y cc mL none :: Wu) rm (Pm D lay ad av w sz) (Qn D lay' ad lay.length w' sz) mc ms (aF ad lay.length sz)
def gQn (κ : KX) (D : CX) (lay' : List Kd) (ad : Nat → Nat) (n : Nat) (w' : Wd) (mc ms : Nat) : Prop := match κ with
  | (_, _, _, _, s, _, args, below, meth, _, Q, A, H0, _) => ∃ sz, meth.sig.returnType = none ∧ Q = MQ below (Qn D lay' ad n w' sz) args s mc ms (aF ad n sz) ∧ A = aF ad n sz ∧ H0 = s.heap
theorem g_vretN (X : gX κ D cc own rm lc L) {ad0 : Nat → Nat} {n : Nat} (Z : gQn κ D lay ad0 n w n1 n2) (h : ∀ c, c < n → ad c = ad0 c) (hd : decode cc pc = .ok (.return_, 1)) : G κ D lay ad n1 n2 w pc ls [] := by
  obtain ⟨p, l, e0, R, s, m, args, below, meth, cd, Q, A, H0, nL⟩ := κ
  obtain ⟨hx, hb, hml, hown, hts, hK, hlocks, hA, rfl, rfl, rfl⟩ := X
  obtain ⟨sz, hr, rfl, rfl, rfl⟩ := Z
  exact fun H locs la hP hD hS hl => W.vret hx hb hr (fun t ht hW => ⟨rfl, ⟨ad, h, by rw [ht]; exact hP, hD⟩, hS.F ht⟩) hS.2.2 hd
theorem mn_of {y : MethodName} {mL mc ms : Nat} {av : List Value} {lay' : List Kd} {w' : Wd} (hy : plainName y.cls = true) (hyn : y.name = "<init>") (hlen : (lg_sl av).length ≤ mL)
    (body : ∀ κ : KX, gX κ D cc y.cls rm lc mL → gN κ → gQn κ D lay' ad lay.length w' mc ms → G κ D lay ad 0 0 w 0 (lv_args 0 av) []) : Mn lc y cc mL rm D lay ad av w lay' w' mc ms := by
  intro sz
  refine Met.ofW (cc := cc) (maxL := mL) (ret := none) hy rfl ?_
  intro p e s m args below meth c s₁ B hml hv
  obtain ⟨rfl, hsz, hP, hK, hD⟩ := hv
  have hts := atoms_spec (ws := Cond.code y cc mL none :: Wu) B.pre
  have hl := lv_entry av (n := mL) hlen
  rw [lg_entry_eq]
  generalize (lg_sl av ++ List.replicate (mL - (lg_sl av).length) Slot.unset).toArray = la at hl ⊢
  exact body (p, lc, e, rm, s, m, av.toArray, below, meth, c, _, aF ad lay.length sz, s.heap, mL)
    ⟨B.exec, B.bytes, hml, findClass_of_methodNamed B.named, fun w hw => hts w (List.mem_cons_of_mem _ hw), hK, B.notSynchronized, fun q h => Or.inr (by rw [← hsz]; exact h), rfl, rfl, rfl⟩
    ((name_of_methodNamed B.named B.method).1.trans hyn) ⟨sz, B.returns, rfl, rfl, rfl⟩ s.heap [] la hP ⟨hD.1, fun k q hq => by
      obtain ⟨h1, h2⟩ := cws_in hq
      exact Or.inl ⟨k, h1, by rw [h2, Nat.zero_add]⟩⟩ va_S.rf hl
def CalI (y : MethodName) (cc : ByteArray) (mL : Nat) (n : Nat) : Prop := y.name = "<init>" ∧ Cond.instanceMethod y ∈ Wu ∧ Cond.initialized y.cls ∈ Wu ∧ Cond.code y cc mL none ∈ Wu ∧ (y.cls ≠ "java/lang/invoke/MethodHandle" ∧ y.cls ≠ "java/lang/invoke/VarHandle" ∧ (parseMethodDescriptor y.desc).map (fun d => d.parameters.length) = some n)
theorem g_callN (X : gX κ D cc own rm lc L) {y : MethodName} {bytes : ByteArray} {mL mc ms index : Nat} {rm1 : Room} {stk : List Value} {lay' : List Kd} {w' : Wd}
    (c : Nat) (av : List Value) (hM : Mn lc y bytes mL rm1 D lay ad (.ref (ad c) :: av) w lay' w' mc ms) (hV : CalI y bytes mL av.length)
    (hw : Cond.methodLink own index y ∈ Wu) (hR : rm1.frames + 1 ≤ rm.frames ∧ 8 + (mL + 11) + rm1.locals ≤ rm.locals) (hmc : rm1.cells = mc) (hms : rm1.slots = ms) (hf : n1 + mc ≤ rm.cells ∧ n2 + ms ≤ rm.slots)
    (hst : stk = av.reverse ++ .ref (ad c) :: st) (hcat : (st.map fun v => v.category).sum ≤ 8) (hd : decode cc pc = .ok (.invokespecial index, 3))
    (k : ∀ ad' : Nat → Nat, (∀ c, c < lay.length → ad' c = ad c) → G κ D lay' ad' (n1 + mc) (n2 + ms) w' (pc + 3) ls st) : G κ D lay ad n1 n2 w pc ls stk := by
  obtain ⟨p, l, e0, R, s, m, args, below, meth, cd, Q, A, H0, nL⟩ := κ
  obtain ⟨hx, hb, hml, hown, hts, hK, hlocks, hA, rfl, rfl, rfl⟩ := X
  intro H locs la hP hD hS hl
  obtain ⟨v0, v1, v3, v4, v5⟩ := hV
  have hr := va_runI (As := av) (rest := st) (g := F0 m pc la stk) (locs := locs) (below := below) (meth := meth) (e := e0) (cells := n1) (slots := n2) ⟨hx, hb, hml, hown, hts⟩ (hM H.size) ⟨callB_of av.length hts (wu_good _ _ _ _ v4) rfl hmc hms (hts _ v3) (hts _ hw) v5 hR, v0, hts _ v1⟩
    ⟨Pm_blind, fun U hU hW => ⟨rfl, by rw [hU], by rw [hU]; exact hP, va_K.moved hW.alike hK, hD.weaken (fun _ _ _ _ => trivial)⟩⟩ rfl rfl hl.1 hst (lv_room hcat) hd hf
  intro T hT Xt
  obtain ⟨v, st₀, t, T', Ls, h0, X', hL, e1, e2, ⟨hv, ⟨ad', had, hP1, hD1⟩, hz, hk⟩, stp⟩ := hr T hT Xt
  cases hv
  rw [h0] at hz hk
  have hF := cws_A hD hS hA
  obtain ⟨t2, a1, b1⟩ := k ad' had T'.heap (locs ++ Ls) la (by rw [e1]; exact hP1) (hD1.weaken (fun k q hq h => hF _ h))
    ⟨Nat.le_trans hS.1 (by rw [e1]; exact hz), fun q h1 h2 => by rw [e1, hk q (Nat.lt_of_lt_of_le h1 hS.1) (fun z => h2 (hF q z))]; exact hS.2.1 q h1 h2, fun q hq => by
      rcases List.mem_append.mp hq with h | h
      · exact hS.2.2 q h
      · exact hF _ (hL q h)⟩ hl T' rfl X'
  exact ⟨t2, stp t2 a1, b1⟩
end Grow

theorem i0lt {a : Int} : iN a < 0 ↔ wr a < 0 := by rw [← iN_0, iN_lt]; rfl
theorem i0gt {a : Int} : 0 < iN a ↔ 0 < wr a := by rw [← iN_0, iN_lt]; rfl
theorem i0le {a : Int} : iN a ≤ 0 ↔ wr a ≤ 0 := by rw [← iN_0, iN_le]; rfl
theorem i0ge {a : Int} : 0 ≤ iN a ↔ 0 ≤ wr a := by rw [← iN_0, iN_le]; rfl
theorem i2l_eq (a : Int) : (iN a).toInt64 = jN (wr a) := by
  unfold wr
  rw [← jN_toInt (iN a).toInt64, Int32.toInt_toInt64]
theorem ofNat_iN (n : Nat) : Int32.ofNat n = iN (n : Int) := by
  unfold iN
  rw [Int32.ofInt_eq_ofNat]
theorem l2i_eq (a : Int) : (jN a).toInt32 = iN a := by
  unfold jN iN
  rw [Int64.toInt32_ofInt]
/-! The judgement G: the machine at pc, its locals ls, its stack st, the world w over the cells of lay; and a row an instruction. -/
abbrev KX : Type := Program × Launch × Env × Room × State × MethodId × Array Value × List Frame × Method × Code × (State → Prop) × (Nat → Prop) × Heap × Nat
def G (κ : KX) (D : CX) (lay : List Kd) (ad : Nat → Nat) (n1 n2 : Nat) (w : Wd) (pc : Nat) (ls : List (Nat × Value)) (st : List Value) : Prop := match κ with
  | (p, l, e, R, s, m, args, below, meth, c, Q, A, H0, nL) => ∀ (H : Heap) (locs : List Loc) (la : Array Slot), va_P D.1 vwCl (cws D ad w 0 lay) H → va_D A (cws D ad w 0 lay) → va_S A H0 H locs → lv_has la nL ls → W p l e R s m args below meth c H locs n1 n2 Q (F0 m pc la st)
def gX (κ : KX) (D : CX) (cc : ByteArray) (own : String) (rm : Room) (lc : Launch) (L : Nat) : Prop := match κ with
  | (p, l, _, R, s, m, args, _, meth, c, _, A, H0, nL) => p.tables.exec = Jvm.exec ∧ c.code = cc ∧ c.maxLocals = nL ∧ s.vm.findClass own = some m.cls ∧ (∀ w ∈ Wu, w.before args s = true) ∧ va_K D.1 vwCl (tyl D) s ∧ meth.locks = false ∧ (∀ q, H0.size ≤ q → A q) ∧ R = rm ∧ l = lc ∧ nL = L
section Rows
variable {κ : KX} {D : CX} {lay : List Kd} {ad : Nat → Nat} {n1 n2 : Nat} {w : Wd} {pc : Nat} {ls : List (Nat × Value)} {st : List Value} {cc : ByteArray} {own : String} {rm : Room} {lc : Launch} {L : Nat}
theorem lv_mem {la : Array Slot} {nL : Nat} {l l' : List (Nat × Value)} (h : lv_has la nL l) (hm : ∀ q ∈ l', q ∈ l) : lv_has la nL l' := ⟨h.1, h.2.1, fun q hq => h.2.2 q (hm q hq)⟩
theorem g_sub (ks : List Nat) {ls' : List (Nat × Value)} (hl : lv_pick ls ks = ls') (k : G κ D lay ad n1 n2 w pc ls' st) : G κ D lay ad n1 n2 w pc ls st := by
  obtain ⟨p, l, e, R, s, m, args, below, meth, c, Q, A, H0, nL⟩ := κ
  exact fun H locs la hP hD hS h => k H locs la hP hD hS (lv_sub h ks hl)
theorem g_eq {w' : Wd} (h : w' = w) (k : G κ D lay ad n1 n2 w' pc ls st) : G κ D lay ad n1 n2 w pc ls st := h ▸ k
theorem g_iconst (X : gX κ D cc own rm lc L) {n : Int} (hd : decode cc pc = .ok (.iconst n, 1)) (k : G κ D lay ad n1 n2 w (pc + 1) ls (iv n :: st)) : G κ D lay ad n1 n2 w (pc) ls (st) := by
  obtain ⟨p, l, e0, R, s, m, args, below, meth, cd, Q, A, H0, nL⟩ := κ
  obtain ⟨hx, hb, hml, hown, hts, hK, hlocks, hA, rfl, rfl, rfl⟩ := X
  intro H locs la hP hD hS hl
  exact lv_iconst hx hb hd rfl (k H locs la hP hD hS hl)
theorem g_bipush (X : gX κ D cc own rm lc L) {n : Int} (x : Int) (hd : decode cc pc = .ok (.bipush n, 2)) (hn : (Int8.ofInt n).toInt32 = iN x) (k : G κ D lay ad n1 n2 w (pc + 2) ls (iv x :: st)) : G κ D lay ad n1 n2 w (pc) ls (st) := by
  obtain ⟨p, l, e0, R, s, m, args, below, meth, cd, Q, A, H0, nL⟩ := κ
  obtain ⟨hx, hb, hml, hown, hts, hK, hlocks, hA, rfl, rfl, rfl⟩ := X
  intro H locs la hP hD hS hl
  exact lv_bipush hx hb hd hn (k H locs la hP hD hS hl)
theorem g_sipush (X : gX κ D cc own rm lc L) {n : Int} (x : Int) (hd : decode cc pc = .ok (.sipush n, 3)) (hn : (Int16.ofInt n).toInt32 = iN x) (k : G κ D lay ad n1 n2 w (pc + 3) ls (iv x :: st)) : G κ D lay ad n1 n2 w (pc) ls (st) := by
  obtain ⟨p, l, e0, R, s, m, args, below, meth, cd, Q, A, H0, nL⟩ := κ
  obtain ⟨hx, hb, hml, hown, hts, hK, hlocks, hA, rfl, rfl, rfl⟩ := X
  intro H locs la hP hD hS hl
  exact lv_sipush hx hb hd hn (k H locs la hP hD hS hl)
theorem g_lconst (X : gX κ D cc own rm lc L) {n : Fin 2} (x : Int) (hd : decode cc pc = .ok (.lconst n, 1)) (hn : Int64.ofNat n.val = jN x) (k : G κ D lay ad n1 n2 w (pc + 1) ls (jv x :: st)) : G κ D lay ad n1 n2 w (pc) ls (st) := by
  obtain ⟨p, l, e0, R, s, m, args, below, meth, cd, Q, A, H0, nL⟩ := κ
  obtain ⟨hx, hb, hml, hown, hts, hK, hlocks, hA, rfl, rfl, rfl⟩ := X
  intro H locs la hP hD hS hl
  exact lv_lconst hx hb hd hn (k H locs la hP hD hS hl)
theorem g_ldc (X : gX κ D cc own rm lc L) {i : Nat} (x : Int) (hd : decode cc pc = .ok (.ldc i, 2)) (hw : Cond.constant own i (iN x) ∈ Wu) (k : G κ D lay ad n1 n2 w (pc + 2) ls (iv x :: st)) : G κ D lay ad n1 n2 w (pc) ls (st) := by
  obtain ⟨p, l, e0, R, s, m, args, below, meth, cd, Q, A, H0, nL⟩ := κ
  obtain ⟨hx, hb, hml, hown, hts, hK, hlocks, hA, rfl, rfl, rfl⟩ := X
  intro H locs la hP hD hS hl
  exact lv_ldc hx hb hown (hts _ hw) hd (k H locs la hP hD hS hl)
theorem g_ldcw (X : gX κ D cc own rm lc L) {i : Nat} (x : Int) (hd : decode cc pc = .ok (.ldc_w i, 3)) (hw : Cond.constant own i (iN x) ∈ Wu) (k : G κ D lay ad n1 n2 w (pc + 3) ls (iv x :: st)) : G κ D lay ad n1 n2 w (pc) ls (st) := by
  obtain ⟨p, l, e0, R, s, m, args, below, meth, cd, Q, A, H0, nL⟩ := κ
  obtain ⟨hx, hb, hml, hown, hts, hK, hlocks, hA, rfl, rfl, rfl⟩ := X
  intro H locs la hP hD hS hl
  exact lv_ldcw hx hb hown (hts _ hw) hd (k H locs la hP hD hS hl)
theorem g_ldc2 (X : gX κ D cc own rm lc L) {i : Nat} (x : Int) (hd : decode cc pc = .ok (.ldc2_w i, 3)) (hw : Cond.constantLong own i (jN x) ∈ Wu) (k : G κ D lay ad n1 n2 w (pc + 3) ls (jv x :: st)) : G κ D lay ad n1 n2 w (pc) ls (st) := by
  obtain ⟨p, l, e0, R, s, m, args, below, meth, cd, Q, A, H0, nL⟩ := κ
  obtain ⟨hx, hb, hml, hown, hts, hK, hlocks, hA, rfl, rfl, rfl⟩ := X
  intro H locs la hP hD hS hl
  exact lv_ldc2 hx hb hown (hts _ hw) hd (k H locs la hP hD hS hl)
theorem g_iload_n (X : gX κ D cc own rm lc L) {f : Fin 4} {i : Nat} {x : Int} (q : Nat) (hd : decode cc pc = .ok (.iload_n f, 1)) (hf : (f : Nat) = i) (hq : ls[q]? = some (i, iv x)) (k : G κ D lay ad n1 n2 w (pc + 1) ls (iv x :: st)) : G κ D lay ad n1 n2 w (pc) ls (st) := by
  obtain ⟨p, l, e0, R, s, m, args, below, meth, cd, Q, A, H0, nL⟩ := κ
  obtain ⟨hx, hb, hml, hown, hts, hK, hlocks, hA, rfl, rfl, rfl⟩ := X
  intro H locs la hP hD hS hl
  exact lv_iload_n hx hb hd hf (lv_at hl q hq) (k H locs la hP hD hS hl)
theorem g_iload (X : gX κ D cc own rm lc L) {i : Nat} {x : Int} (q : Nat) (hd : decode cc pc = .ok (.iload i, 2)) (hq : ls[q]? = some (i, iv x)) (k : G κ D lay ad n1 n2 w (pc + 2) ls (iv x :: st)) : G κ D lay ad n1 n2 w (pc) ls (st) := by
  obtain ⟨p, l, e0, R, s, m, args, below, meth, cd, Q, A, H0, nL⟩ := κ
  obtain ⟨hx, hb, hml, hown, hts, hK, hlocks, hA, rfl, rfl, rfl⟩ := X
  intro H locs la hP hD hS hl
  exact lv_iload hx hb hd (lv_at hl q hq) (k H locs la hP hD hS hl)
theorem g_lload_n (X : gX κ D cc own rm lc L) {f : Fin 4} {i : Nat} {x : Int} (q : Nat) (hd : decode cc pc = .ok (.lload_n f, 1)) (hf : (f : Nat) = i) (hq : ls[q]? = some (i, jv x)) (k : G κ D lay ad n1 n2 w (pc + 1) ls (jv x :: st)) : G κ D lay ad n1 n2 w (pc) ls (st) := by
  obtain ⟨p, l, e0, R, s, m, args, below, meth, cd, Q, A, H0, nL⟩ := κ
  obtain ⟨hx, hb, hml, hown, hts, hK, hlocks, hA, rfl, rfl, rfl⟩ := X
  intro H locs la hP hD hS hl
  exact lv_lload_n hx hb hd hf (lv_at hl q hq) (k H locs la hP hD hS hl)
theorem g_lload (X : gX κ D cc own rm lc L) {i : Nat} {x : Int} (q : Nat) (hd : decode cc pc = .ok (.lload i, 2)) (hq : ls[q]? = some (i, jv x)) (k : G κ D lay ad n1 n2 w (pc + 2) ls (jv x :: st)) : G κ D lay ad n1 n2 w (pc) ls (st) := by
  obtain ⟨p, l, e0, R, s, m, args, below, meth, cd, Q, A, H0, nL⟩ := κ
  obtain ⟨hx, hb, hml, hown, hts, hK, hlocks, hA, rfl, rfl, rfl⟩ := X
  intro H locs la hP hD hS hl
  exact lv_lload hx hb hd (lv_at hl q hq) (k H locs la hP hD hS hl)
theorem g_aload_n (X : gX κ D cc own rm lc L) {f : Fin 4} {i a : Nat} (q : Nat) (hd : decode cc pc = .ok (.aload_n f, 1)) (hf : (f : Nat) = i) (hq : ls[q]? = some (i, .ref a)) (k : G κ D lay ad n1 n2 w (pc + 1) ls (.ref a :: st)) : G κ D lay ad n1 n2 w (pc) ls (st) := by
  obtain ⟨p, l, e0, R, s, m, args, below, meth, cd, Q, A, H0, nL⟩ := κ
  obtain ⟨hx, hb, hml, hown, hts, hK, hlocks, hA, rfl, rfl, rfl⟩ := X
  intro H locs la hP hD hS hl
  exact lv_aload_n hx hb hd hf (lv_at hl q hq) (k H locs la hP hD hS hl)
theorem g_aload (X : gX κ D cc own rm lc L) {i a : Nat} (q : Nat) (hd : decode cc pc = .ok (.aload i, 2)) (hq : ls[q]? = some (i, .ref a)) (k : G κ D lay ad n1 n2 w (pc + 2) ls (.ref a :: st)) : G κ D lay ad n1 n2 w (pc) ls (st) := by
  obtain ⟨p, l, e0, R, s, m, args, below, meth, cd, Q, A, H0, nL⟩ := κ
  obtain ⟨hx, hb, hml, hown, hts, hK, hlocks, hA, rfl, rfl, rfl⟩ := X
  intro H locs la hP hD hS hl
  exact lv_aload hx hb hd (lv_at hl q hq) (k H locs la hP hD hS hl)
theorem g_istore_n (X : gX κ D cc own rm lc L) {f : Fin 4} {i : Nat} {x : Int} (ks : List Nat) {ls1 : List (Nat × Value)} (hd : decode cc pc = .ok (.istore_n f, 1)) (hf : (f : Nat) = i) (hn : i < L) (h1 : lv_pick ((i, iv x) :: ls.filter (fun q => !(q.1 == i) && !(q.1 + 1 == i && q.2.category == 2))) ks = ls1) (k : G κ D lay ad n1 n2 w (pc + 1) ls1 (st)) : G κ D lay ad n1 n2 w (pc) ls (iv x :: st) := by
  obtain ⟨p, l, e0, R, s, m, args, below, meth, cd, Q, A, H0, nL⟩ := κ
  obtain ⟨hx, hb, hml, hown, hts, hK, hlocks, hA, rfl, rfl, rfl⟩ := X
  intro H locs la hP hD hS hl
  exact lv_istore_n hx hb hd hf hl hn rfl (fun la1 hl1 => k H locs la1 hP hD hS (lv_sub hl1 ks h1))
theorem g_istore (X : gX κ D cc own rm lc L) {i : Nat} {x : Int} (ks : List Nat) {ls1 : List (Nat × Value)} (hd : decode cc pc = .ok (.istore i, 2)) (hn : i < L) (h1 : lv_pick ((i, iv x) :: ls.filter (fun q => !(q.1 == i) && !(q.1 + 1 == i && q.2.category == 2))) ks = ls1) (k : G κ D lay ad n1 n2 w (pc + 2) ls1 (st)) : G κ D lay ad n1 n2 w (pc) ls (iv x :: st) := by
  obtain ⟨p, l, e0, R, s, m, args, below, meth, cd, Q, A, H0, nL⟩ := κ
  obtain ⟨hx, hb, hml, hown, hts, hK, hlocks, hA, rfl, rfl, rfl⟩ := X
  intro H locs la hP hD hS hl
  exact lv_istore hx hb hd hl hn rfl (fun la1 hl1 => k H locs la1 hP hD hS (lv_sub hl1 ks h1))
theorem g_lstore_n (X : gX κ D cc own rm lc L) {f : Fin 4} {i : Nat} {x : Int} (ks : List Nat) {ls1 : List (Nat × Value)} (hd : decode cc pc = .ok (.lstore_n f, 1)) (hf : (f : Nat) = i) (hn : i + 1 < L) (h1 : lv_pick ((i, jv x) :: ls.filter (fun q => !(q.1 == i) && (!(q.1 == i + 1) && !(q.1 + 1 == i && q.2.category == 2)))) ks = ls1) (k : G κ D lay ad n1 n2 w (pc + 1) ls1 (st)) : G κ D lay ad n1 n2 w (pc) ls (jv x :: st) := by
  obtain ⟨p, l, e0, R, s, m, args, below, meth, cd, Q, A, H0, nL⟩ := κ
  obtain ⟨hx, hb, hml, hown, hts, hK, hlocks, hA, rfl, rfl, rfl⟩ := X
  intro H locs la hP hD hS hl
  exact lv_lstore_n hx hb hd hf hl hn rfl (fun la1 hl1 => k H locs la1 hP hD hS (lv_sub hl1 ks h1))
theorem g_lstore (X : gX κ D cc own rm lc L) {i : Nat} {x : Int} (ks : List Nat) {ls1 : List (Nat × Value)} (hd : decode cc pc = .ok (.lstore i, 2)) (hn : i + 1 < L) (h1 : lv_pick ((i, jv x) :: ls.filter (fun q => !(q.1 == i) && (!(q.1 == i + 1) && !(q.1 + 1 == i && q.2.category == 2)))) ks = ls1) (k : G κ D lay ad n1 n2 w (pc + 2) ls1 (st)) : G κ D lay ad n1 n2 w (pc) ls (jv x :: st) := by
  obtain ⟨p, l, e0, R, s, m, args, below, meth, cd, Q, A, H0, nL⟩ := κ
  obtain ⟨hx, hb, hml, hown, hts, hK, hlocks, hA, rfl, rfl, rfl⟩ := X
  intro H locs la hP hD hS hl
  exact lv_lstore hx hb hd hl hn rfl (fun la1 hl1 => k H locs la1 hP hD hS (lv_sub hl1 ks h1))
theorem g_astore_n (X : gX κ D cc own rm lc L) {f : Fin 4} {i a : Nat} (ks : List Nat) {ls1 : List (Nat × Value)} (hd : decode cc pc = .ok (.astore_n f, 1)) (hf : (f : Nat) = i) (hn : i < L) (h1 : lv_pick ((i, .ref a) :: ls.filter (fun q => !(q.1 == i) && !(q.1 + 1 == i && q.2.category == 2))) ks = ls1) (k : G κ D lay ad n1 n2 w (pc + 1) ls1 (st)) : G κ D lay ad n1 n2 w (pc) ls (.ref a :: st) := by
  obtain ⟨p, l, e0, R, s, m, args, below, meth, cd, Q, A, H0, nL⟩ := κ
  obtain ⟨hx, hb, hml, hown, hts, hK, hlocks, hA, rfl, rfl, rfl⟩ := X
  intro H locs la hP hD hS hl
  exact lv_astore_n hx hb hd hf hl hn rfl (fun la1 hl1 => k H locs la1 hP hD hS (lv_sub hl1 ks h1))
theorem g_astore (X : gX κ D cc own rm lc L) {i a : Nat} (ks : List Nat) {ls1 : List (Nat × Value)} (hd : decode cc pc = .ok (.astore i, 2)) (hn : i < L) (h1 : lv_pick ((i, .ref a) :: ls.filter (fun q => !(q.1 == i) && !(q.1 + 1 == i && q.2.category == 2))) ks = ls1) (k : G κ D lay ad n1 n2 w (pc + 2) ls1 (st)) : G κ D lay ad n1 n2 w (pc) ls (.ref a :: st) := by
  obtain ⟨p, l, e0, R, s, m, args, below, meth, cd, Q, A, H0, nL⟩ := κ
  obtain ⟨hx, hb, hml, hown, hts, hK, hlocks, hA, rfl, rfl, rfl⟩ := X
  intro H locs la hP hD hS hl
  exact lv_astore hx hb hd hl hn rfl (fun la1 hl1 => k H locs la1 hP hD hS (lv_sub hl1 ks h1))
theorem g_iinc (X : gX κ D cc own rm lc L) {i : Nat} {n x : Int} (q : Nat) (ks : List Nat) {ls1 : List (Nat × Value)} (hd : decode cc pc = .ok (.iinc i n, 3)) (hq : ls[q]? = some (i, iv x)) (hn : i < L) (h1 : lv_pick ((i, iv (x + n)) :: ls.filter (fun q => !(q.1 == i) && !(q.1 + 1 == i && q.2.category == 2))) ks = ls1) (k : G κ D lay ad n1 n2 w (pc + 3) ls1 (st)) : G κ D lay ad n1 n2 w (pc) ls (st) := by
  obtain ⟨p, l, e0, R, s, m, args, below, meth, cd, Q, A, H0, nL⟩ := κ
  obtain ⟨hx, hb, hml, hown, hts, hK, hlocks, hA, rfl, rfl, rfl⟩ := X
  intro H locs la hP hD hS hl
  exact lv_iinc (v := iN (x + n)) hx hb hd hl hq (iN_add x n) hn rfl (fun la1 hl1 => k H locs la1 hP hD hS (lv_sub hl1 ks h1))
theorem g_iadd (X : gX κ D cc own rm lc L) {a b : Int} (hd : decode cc pc = .ok (.iadd, 1)) (k : G κ D lay ad n1 n2 w (pc + 1) ls (iv (a + b) :: st)) : G κ D lay ad n1 n2 w (pc) ls (iv b :: iv a :: st) := by
  obtain ⟨p, l, e0, R, s, m, args, below, meth, cd, Q, A, H0, nL⟩ := κ
  obtain ⟨hx, hb, hml, hown, hts, hK, hlocks, hA, rfl, rfl, rfl⟩ := X
  intro H locs la hP hD hS hl
  refine lv_iadd hx hb hd ?_
  rw [iN_add]
  exact k H locs la hP hD hS hl
theorem g_isub (X : gX κ D cc own rm lc L) {a b : Int} (hd : decode cc pc = .ok (.isub, 1)) (k : G κ D lay ad n1 n2 w (pc + 1) ls (iv (a - b) :: st)) : G κ D lay ad n1 n2 w (pc) ls (iv b :: iv a :: st) := by
  obtain ⟨p, l, e0, R, s, m, args, below, meth, cd, Q, A, H0, nL⟩ := κ
  obtain ⟨hx, hb, hml, hown, hts, hK, hlocks, hA, rfl, rfl, rfl⟩ := X
  intro H locs la hP hD hS hl
  refine lv_isub hx hb hd ?_
  rw [iN_sub]
  exact k H locs la hP hD hS hl
theorem g_imul (X : gX κ D cc own rm lc L) {a b : Int} (hd : decode cc pc = .ok (.imul, 1)) (k : G κ D lay ad n1 n2 w (pc + 1) ls (iv (a * b) :: st)) : G κ D lay ad n1 n2 w (pc) ls (iv b :: iv a :: st) := by
  obtain ⟨p, l, e0, R, s, m, args, below, meth, cd, Q, A, H0, nL⟩ := κ
  obtain ⟨hx, hb, hml, hown, hts, hK, hlocks, hA, rfl, rfl, rfl⟩ := X
  intro H locs la hP hD hS hl
  refine lv_imul hx hb hd ?_
  rw [iN_mul]
  exact k H locs la hP hD hS hl
theorem g_iand (X : gX κ D cc own rm lc L) {a b : Int} (hd : decode cc pc = .ok (.iand, 1)) (k : G κ D lay ad n1 n2 w (pc + 1) ls (iv (band a b) :: st)) : G κ D lay ad n1 n2 w (pc) ls (iv b :: iv a :: st) := by
  obtain ⟨p, l, e0, R, s, m, args, below, meth, cd, Q, A, H0, nL⟩ := κ
  obtain ⟨hx, hb, hml, hown, hts, hK, hlocks, hA, rfl, rfl, rfl⟩ := X
  intro H locs la hP hD hS hl
  refine lv_iand hx hb hd ?_
  have h := k H locs la hP hD hS hl
  unfold iv band at h
  rw [iN_toInt] at h
  exact h
theorem g_ior (X : gX κ D cc own rm lc L) {a b : Int} (hd : decode cc pc = .ok (.ior, 1)) (k : G κ D lay ad n1 n2 w (pc + 1) ls (iv (bor a b) :: st)) : G κ D lay ad n1 n2 w (pc) ls (iv b :: iv a :: st) := by
  obtain ⟨p, l, e0, R, s, m, args, below, meth, cd, Q, A, H0, nL⟩ := κ
  obtain ⟨hx, hb, hml, hown, hts, hK, hlocks, hA, rfl, rfl, rfl⟩ := X
  intro H locs la hP hD hS hl
  refine lv_ior hx hb hd ?_
  have h := k H locs la hP hD hS hl
  unfold iv bor at h
  rw [iN_toInt] at h
  exact h
theorem g_ixor (X : gX κ D cc own rm lc L) {a b : Int} (hd : decode cc pc = .ok (.ixor, 1)) (k : G κ D lay ad n1 n2 w (pc + 1) ls (iv (bxor a b) :: st)) : G κ D lay ad n1 n2 w (pc) ls (iv b :: iv a :: st) := by
  obtain ⟨p, l, e0, R, s, m, args, below, meth, cd, Q, A, H0, nL⟩ := κ
  obtain ⟨hx, hb, hml, hown, hts, hK, hlocks, hA, rfl, rfl, rfl⟩ := X
  intro H locs la hP hD hS hl
  refine lv_ixor hx hb hd ?_
  have h := k H locs la hP hD hS hl
  unfold iv bxor at h
  rw [iN_toInt] at h
  exact h
theorem g_ishl (X : gX κ D cc own rm lc L) {a b : Int} (hd : decode cc pc = .ok (.ishl, 1)) (k : G κ D lay ad n1 n2 w (pc + 1) ls (iv (bshl a b) :: st)) : G κ D lay ad n1 n2 w (pc) ls (iv b :: iv a :: st) := by
  obtain ⟨p, l, e0, R, s, m, args, below, meth, cd, Q, A, H0, nL⟩ := κ
  obtain ⟨hx, hb, hml, hown, hts, hK, hlocks, hA, rfl, rfl, rfl⟩ := X
  intro H locs la hP hD hS hl
  refine lv_ishl hx hb hd ?_
  have h := k H locs la hP hD hS hl
  unfold iv bshl at h
  rw [iN_toInt] at h
  exact h
theorem g_ishr (X : gX κ D cc own rm lc L) {a b : Int} (hd : decode cc pc = .ok (.ishr, 1)) (k : G κ D lay ad n1 n2 w (pc + 1) ls (iv (bshr a b) :: st)) : G κ D lay ad n1 n2 w (pc) ls (iv b :: iv a :: st) := by
  obtain ⟨p, l, e0, R, s, m, args, below, meth, cd, Q, A, H0, nL⟩ := κ
  obtain ⟨hx, hb, hml, hown, hts, hK, hlocks, hA, rfl, rfl, rfl⟩ := X
  intro H locs la hP hD hS hl
  refine lv_ishr hx hb hd ?_
  have h := k H locs la hP hD hS hl
  unfold iv bshr at h
  rw [iN_toInt] at h
  exact h
theorem g_iushr (X : gX κ D cc own rm lc L) {a b : Int} (hd : decode cc pc = .ok (.iushr, 1)) (k : G κ D lay ad n1 n2 w (pc + 1) ls (iv (bushr a b) :: st)) : G κ D lay ad n1 n2 w (pc) ls (iv b :: iv a :: st) := by
  obtain ⟨p, l, e0, R, s, m, args, below, meth, cd, Q, A, H0, nL⟩ := κ
  obtain ⟨hx, hb, hml, hown, hts, hK, hlocks, hA, rfl, rfl, rfl⟩ := X
  intro H locs la hP hD hS hl
  refine lv_iushr hx hb hd (iN_toInt _).symm ?_
  exact k H locs la hP hD hS hl
theorem g_idiv (X : gX κ D cc own rm lc L) {a b : Int} {α : Type} {Z : Option α} {v : α} (h : (if wr b = 0 then none else Z) = some v) (hd : decode cc pc = .ok (.idiv, 1)) (k : Z = some v → G κ D lay ad n1 n2 w (pc + 1) ls (iv (bdiv a b) :: st)) : G κ D lay ad n1 n2 w (pc) ls (iv b :: iv a :: st) := by
  obtain ⟨p, l, e0, R, s, m, args, below, meth, cd, Q, A, H0, nL⟩ := κ
  obtain ⟨hx, hb, hml, hown, hts, hK, hlocks, hA, rfl, rfl, rfl⟩ := X
  intro H locs la hP hD hS hl
  by_cases hz : wr b = 0
  · rw [if_pos hz] at h
    cases h
  · rw [if_neg hz] at h
    refine lv_idiv hx hb hd (fun q => hz (iN_eq0.mp q)) ?_
    have h2 := k h H locs la hP hD hS hl
    unfold iv bdiv at h2
    rw [iN_toInt] at h2
    exact h2
theorem g_idivC (X : gX κ D cc own rm lc L) {a b : Int} (hz : iN b ≠ 0) (hd : decode cc pc = .ok (.idiv, 1)) (k : G κ D lay ad n1 n2 w (pc + 1) ls (iv (bdiv a b) :: st)) : G κ D lay ad n1 n2 w (pc) ls (iv b :: iv a :: st) := by
  obtain ⟨p, l, e0, R, s, m, args, below, meth, cd, Q, A, H0, nL⟩ := κ
  obtain ⟨hx, hb, hml, hown, hts, hK, hlocks, hA, rfl, rfl, rfl⟩ := X
  intro H locs la hP hD hS hl
  refine lv_idiv hx hb hd hz ?_
  have h2 := k H locs la hP hD hS hl
  unfold iv bdiv at h2
  rw [iN_toInt] at h2
  exact h2
theorem g_irem (X : gX κ D cc own rm lc L) {a b : Int} {α : Type} {Z : Option α} {v : α} (h : (if wr b = 0 then none else Z) = some v) (hd : decode cc pc = .ok (.irem, 1)) (k : Z = some v → G κ D lay ad n1 n2 w (pc + 1) ls (iv (brem a b) :: st)) : G κ D lay ad n1 n2 w (pc) ls (iv b :: iv a :: st) := by
  obtain ⟨p, l, e0, R, s, m, args, below, meth, cd, Q, A, H0, nL⟩ := κ
  obtain ⟨hx, hb, hml, hown, hts, hK, hlocks, hA, rfl, rfl, rfl⟩ := X
  intro H locs la hP hD hS hl
  by_cases hz : wr b = 0
  · rw [if_pos hz] at h
    cases h
  · rw [if_neg hz] at h
    refine lv_irem hx hb hd (fun q => hz (iN_eq0.mp q)) ?_
    have h2 := k h H locs la hP hD hS hl
    unfold iv brem at h2
    rw [iN_toInt] at h2
    exact h2
theorem g_iremC (X : gX κ D cc own rm lc L) {a b : Int} (hz : iN b ≠ 0) (hd : decode cc pc = .ok (.irem, 1)) (k : G κ D lay ad n1 n2 w (pc + 1) ls (iv (brem a b) :: st)) : G κ D lay ad n1 n2 w (pc) ls (iv b :: iv a :: st) := by
  obtain ⟨p, l, e0, R, s, m, args, below, meth, cd, Q, A, H0, nL⟩ := κ
  obtain ⟨hx, hb, hml, hown, hts, hK, hlocks, hA, rfl, rfl, rfl⟩ := X
  intro H locs la hP hD hS hl
  refine lv_irem hx hb hd hz ?_
  have h2 := k H locs la hP hD hS hl
  unfold iv brem at h2
  rw [iN_toInt] at h2
  exact h2
theorem g_ineg (X : gX κ D cc own rm lc L) {a : Int} (hd : decode cc pc = .ok (.ineg, 1)) (k : G κ D lay ad n1 n2 w (pc + 1) ls (iv (-a) :: st)) : G κ D lay ad n1 n2 w (pc) ls (iv a :: st) := by
  obtain ⟨p, l, e0, R, s, m, args, below, meth, cd, Q, A, H0, nL⟩ := κ
  obtain ⟨hx, hb, hml, hown, hts, hK, hlocks, hA, rfl, rfl, rfl⟩ := X
  intro H locs la hP hD hS hl
  refine lv_ineg hx hb hd ?_
  rw [iN_neg]
  exact k H locs la hP hD hS hl
theorem g_ladd (X : gX κ D cc own rm lc L) {a b : Int} (hd : decode cc pc = .ok (.ladd, 1)) (k : G κ D lay ad n1 n2 w (pc + 1) ls (jv (a + b) :: st)) : G κ D lay ad n1 n2 w (pc) ls (jv b :: jv a :: st) := by
  obtain ⟨p, l, e0, R, s, m, args, below, meth, cd, Q, A, H0, nL⟩ := κ
  obtain ⟨hx, hb, hml, hown, hts, hK, hlocks, hA, rfl, rfl, rfl⟩ := X
  intro H locs la hP hD hS hl
  refine lv_ladd hx hb hd ?_
  rw [jN_add]
  exact k H locs la hP hD hS hl
theorem g_lsub (X : gX κ D cc own rm lc L) {a b : Int} (hd : decode cc pc = .ok (.lsub, 1)) (k : G κ D lay ad n1 n2 w (pc + 1) ls (jv (a - b) :: st)) : G κ D lay ad n1 n2 w (pc) ls (jv b :: jv a :: st) := by
  obtain ⟨p, l, e0, R, s, m, args, below, meth, cd, Q, A, H0, nL⟩ := κ
  obtain ⟨hx, hb, hml, hown, hts, hK, hlocks, hA, rfl, rfl, rfl⟩ := X
  intro H locs la hP hD hS hl
  refine lv_lsub hx hb hd ?_
  rw [jN_sub]
  exact k H locs la hP hD hS hl
theorem g_land (X : gX κ D cc own rm lc L) {a b : Int} (hd : decode cc pc = .ok (.land, 1)) (k : G κ D lay ad n1 n2 w (pc + 1) ls (jv (land a b) :: st)) : G κ D lay ad n1 n2 w (pc) ls (jv b :: jv a :: st) := by
  obtain ⟨p, l, e0, R, s, m, args, below, meth, cd, Q, A, H0, nL⟩ := κ
  obtain ⟨hx, hb, hml, hown, hts, hK, hlocks, hA, rfl, rfl, rfl⟩ := X
  intro H locs la hP hD hS hl
  refine lv_land hx hb hd ?_
  have h := k H locs la hP hD hS hl
  unfold jv land at h
  rw [jN_toInt] at h
  exact h
theorem g_lshl (X : gX κ D cc own rm lc L) {a b : Int} (hd : decode cc pc = .ok (.lshl, 1)) (k : G κ D lay ad n1 n2 w (pc + 1) ls (jv (lshl a b) :: st)) : G κ D lay ad n1 n2 w (pc) ls (iv b :: jv a :: st) := by
  obtain ⟨p, l, e0, R, s, m, args, below, meth, cd, Q, A, H0, nL⟩ := κ
  obtain ⟨hx, hb, hml, hown, hts, hK, hlocks, hA, rfl, rfl, rfl⟩ := X
  intro H locs la hP hD hS hl
  exact lv_lshl hx hb hd (jN_toInt _).symm (k H locs la hP hD hS hl)
theorem g_lshr (X : gX κ D cc own rm lc L) {a b : Int} (hd : decode cc pc = .ok (.lshr, 1)) (k : G κ D lay ad n1 n2 w (pc + 1) ls (jv (lshr a b) :: st)) : G κ D lay ad n1 n2 w (pc) ls (iv b :: jv a :: st) := by
  obtain ⟨p, l, e0, R, s, m, args, below, meth, cd, Q, A, H0, nL⟩ := κ
  obtain ⟨hx, hb, hml, hown, hts, hK, hlocks, hA, rfl, rfl, rfl⟩ := X
  intro H locs la hP hD hS hl
  exact lv_lshr hx hb hd (jN_toInt _).symm (k H locs la hP hD hS hl)
theorem g_i2l (X : gX κ D cc own rm lc L) {a : Int} (hd : decode cc pc = .ok (.i2l, 1)) (k : G κ D lay ad n1 n2 w (pc + 1) ls (jv (wr a) :: st)) : G κ D lay ad n1 n2 w (pc) ls (iv a :: st) := by
  obtain ⟨p, l, e0, R, s, m, args, below, meth, cd, Q, A, H0, nL⟩ := κ
  obtain ⟨hx, hb, hml, hown, hts, hK, hlocks, hA, rfl, rfl, rfl⟩ := X
  intro H locs la hP hD hS hl
  refine lv_i2l hx hb hd (i2l_eq a) (k H locs la hP hD hS hl)
theorem g_l2i (X : gX κ D cc own rm lc L) {a : Int} (hd : decode cc pc = .ok (.l2i, 1)) (k : G κ D lay ad n1 n2 w (pc + 1) ls (iv a :: st)) : G κ D lay ad n1 n2 w (pc) ls (jv a :: st) := by
  obtain ⟨p, l, e0, R, s, m, args, below, meth, cd, Q, A, H0, nL⟩ := κ
  obtain ⟨hx, hb, hml, hown, hts, hK, hlocks, hA, rfl, rfl, rfl⟩ := X
  intro H locs la hP hD hS hl
  refine lv_l2i hx hb hd (l2i_eq a) (k H locs la hP hD hS hl)
theorem g_lcmp (X : gX κ D cc own rm lc L) {a b : Int} (hd : decode cc pc = .ok (.lcmp, 1)) (k : G κ D lay ad n1 n2 w (pc + 1) ls (iv (bcmp a b) :: st)) : G κ D lay ad n1 n2 w (pc) ls (jv b :: jv a :: st) := by
  obtain ⟨p, l, e0, R, s, m, args, below, meth, cd, Q, A, H0, nL⟩ := κ
  obtain ⟨hx, hb, hml, hown, hts, hK, hlocks, hA, rfl, rfl, rfl⟩ := X
  intro H locs la hP hD hS hl
  refine W.lcmp hx hb hd ?_
  have h := k H locs la hP hD hS hl
  unfold iv bcmp at h
  rw [iN_toInt] at h
  exact h
theorem g_dup (X : gX κ D cc own rm lc L) {v : Value} (hd : decode cc pc = .ok (.dup, 1)) (hv : v.category = 1) (k : G κ D lay ad n1 n2 w (pc + 1) ls (v :: v :: st)) : G κ D lay ad n1 n2 w (pc) ls (v :: st) := by
  obtain ⟨p, l, e0, R, s, m, args, below, meth, cd, Q, A, H0, nL⟩ := κ
  obtain ⟨hx, hb, hml, hown, hts, hK, hlocks, hA, rfl, rfl, rfl⟩ := X
  intro H locs la hP hD hS hl
  exact lv_dup hx hb hd hv (k H locs la hP hD hS hl)
theorem g_pop (X : gX κ D cc own rm lc L) {v : Value} (hd : decode cc pc = .ok (.pop, 1)) (hv : v.category = 1) (k : G κ D lay ad n1 n2 w (pc + 1) ls (st)) : G κ D lay ad n1 n2 w (pc) ls (v :: st) := by
  obtain ⟨p, l, e0, R, s, m, args, below, meth, cd, Q, A, H0, nL⟩ := κ
  obtain ⟨hx, hb, hml, hown, hts, hK, hlocks, hA, rfl, rfl, rfl⟩ := X
  intro H locs la hP hD hS hl
  exact lv_pop hx hb hd hv (k H locs la hP hD hS hl)
theorem g_dup2 (X : gX κ D cc own rm lc L) {v u : Value} (hd : decode cc pc = .ok (.dup2, 1)) (hv : v.category = 1) (hu : u.category = 1) (k : G κ D lay ad n1 n2 w (pc + 1) ls (v :: u :: v :: u :: st)) : G κ D lay ad n1 n2 w (pc) ls (v :: u :: st) := by
  obtain ⟨p, l, e0, R, s, m, args, below, meth, cd, Q, A, H0, nL⟩ := κ
  obtain ⟨hx, hb, hml, hown, hts, hK, hlocks, hA, rfl, rfl, rfl⟩ := X
  intro H locs la hP hD hS hl
  exact lv_dup2_11 hx hb hd hv hu (k H locs la hP hD hS hl)
theorem g_goto (X : gX κ D cc own rm lc L) {off : Int} {tgt : Nat} (hd : decode cc pc = .ok (.goto off, 3)) (ht : (pc : Int) + off = (tgt : Int)) (k : G κ D lay ad n1 n2 w (tgt) ls (st)) : G κ D lay ad n1 n2 w (pc) ls (st) := by
  obtain ⟨p, l, e0, R, s, m, args, below, meth, cd, Q, A, H0, nL⟩ := κ
  obtain ⟨hx, hb, hml, hown, hts, hK, hlocks, hA, rfl, rfl, rfl⟩ := X
  intro H locs la hP hD hS hl
  exact lv_goto hx hb hd ht (k H locs la hP hD hS hl)
theorem g_if_eq (X : gX κ D cc own rm lc L) {a : Int} {off : Int} {tgt : Nat} {α : Type} {Y Z : Option α} {v : α} (h : (if wr a = 0 then Y else Z) = some v) (hd : decode cc pc = .ok (.ifCond .eq off, 3)) (ht : (pc : Int) + off = (tgt : Int)) (k1 : Y = some v → G κ D lay ad n1 n2 w (tgt) ls (st)) (k2 : Z = some v → G κ D lay ad n1 n2 w (pc + 3) ls (st)) : G κ D lay ad n1 n2 w (pc) ls (iv a :: st) := by
  obtain ⟨p, l, e0, R, s, m, args, below, meth, cd, Q, A, H0, nL⟩ := κ
  obtain ⟨hx, hb, hml, hown, hts, hK, hlocks, hA, rfl, rfl, rfl⟩ := X
  intro H locs la hP hD hS hl
  exact lv_if_eq hx hb hd ht (fun q => k1 (by rwa [if_pos (iN_eq0.mp q)] at h) H locs la hP hD hS hl) (fun q => k2 (by rwa [if_neg (fun z => q (iN_eq0.mpr z))] at h) H locs la hP hD hS hl)
theorem g_if_ne (X : gX κ D cc own rm lc L) {a : Int} {off : Int} {tgt : Nat} {α : Type} {Y Z : Option α} {v : α} (h : (if wr a = 0 then Z else Y) = some v) (hd : decode cc pc = .ok (.ifCond .ne off, 3)) (ht : (pc : Int) + off = (tgt : Int)) (k1 : Y = some v → G κ D lay ad n1 n2 w (tgt) ls (st)) (k2 : Z = some v → G κ D lay ad n1 n2 w (pc + 3) ls (st)) : G κ D lay ad n1 n2 w (pc) ls (iv a :: st) := by
  obtain ⟨p, l, e0, R, s, m, args, below, meth, cd, Q, A, H0, nL⟩ := κ
  obtain ⟨hx, hb, hml, hown, hts, hK, hlocks, hA, rfl, rfl, rfl⟩ := X
  intro H locs la hP hD hS hl
  exact lv_if_ne hx hb hd ht (fun q => k1 (by rwa [if_neg (fun z => q (iN_eq0.mpr z))] at h) H locs la hP hD hS hl) (fun q => k2 (by rwa [if_pos (iN_eq0.mp q)] at h) H locs la hP hD hS hl)
theorem g_if_lt (X : gX κ D cc own rm lc L) {a : Int} {off : Int} {tgt : Nat} {α : Type} {Y Z : Option α} {v : α} (h : (if wr a < 0 then Y else Z) = some v) (hd : decode cc pc = .ok (.ifCond .lt off, 3)) (ht : (pc : Int) + off = (tgt : Int)) (k1 : Y = some v → G κ D lay ad n1 n2 w (tgt) ls (st)) (k2 : Z = some v → G κ D lay ad n1 n2 w (pc + 3) ls (st)) : G κ D lay ad n1 n2 w (pc) ls (iv a :: st) := by
  obtain ⟨p, l, e0, R, s, m, args, below, meth, cd, Q, A, H0, nL⟩ := κ
  obtain ⟨hx, hb, hml, hown, hts, hK, hlocks, hA, rfl, rfl, rfl⟩ := X
  intro H locs la hP hD hS hl
  exact lv_if_lt hx hb hd ht (fun q => k1 (by rwa [if_pos (i0lt.mp q)] at h) H locs la hP hD hS hl) (fun q => k2 (by rwa [if_neg (fun z => q (i0lt.mpr z))] at h) H locs la hP hD hS hl)
theorem g_if_ge (X : gX κ D cc own rm lc L) {a : Int} {off : Int} {tgt : Nat} {α : Type} {Y Z : Option α} {v : α} (h : (if 0 ≤ wr a then Y else Z) = some v) (hd : decode cc pc = .ok (.ifCond .ge off, 3)) (ht : (pc : Int) + off = (tgt : Int)) (k1 : Y = some v → G κ D lay ad n1 n2 w (tgt) ls (st)) (k2 : Z = some v → G κ D lay ad n1 n2 w (pc + 3) ls (st)) : G κ D lay ad n1 n2 w (pc) ls (iv a :: st) := by
  obtain ⟨p, l, e0, R, s, m, args, below, meth, cd, Q, A, H0, nL⟩ := κ
  obtain ⟨hx, hb, hml, hown, hts, hK, hlocks, hA, rfl, rfl, rfl⟩ := X
  intro H locs la hP hD hS hl
  exact lv_if_ge hx hb hd ht (fun q => k1 (by rwa [if_pos (i0ge.mp q)] at h) H locs la hP hD hS hl) (fun q => k2 (by rwa [if_neg (fun z => q (i0ge.mpr z))] at h) H locs la hP hD hS hl)
theorem g_if_gt (X : gX κ D cc own rm lc L) {a : Int} {off : Int} {tgt : Nat} {α : Type} {Y Z : Option α} {v : α} (h : (if 0 < wr a then Y else Z) = some v) (hd : decode cc pc = .ok (.ifCond .gt off, 3)) (ht : (pc : Int) + off = (tgt : Int)) (k1 : Y = some v → G κ D lay ad n1 n2 w (tgt) ls (st)) (k2 : Z = some v → G κ D lay ad n1 n2 w (pc + 3) ls (st)) : G κ D lay ad n1 n2 w (pc) ls (iv a :: st) := by
  obtain ⟨p, l, e0, R, s, m, args, below, meth, cd, Q, A, H0, nL⟩ := κ
  obtain ⟨hx, hb, hml, hown, hts, hK, hlocks, hA, rfl, rfl, rfl⟩ := X
  intro H locs la hP hD hS hl
  exact lv_if_gt hx hb hd ht (fun q => k1 (by rwa [if_pos (i0gt.mp q)] at h) H locs la hP hD hS hl) (fun q => k2 (by rwa [if_neg (fun z => q (i0gt.mpr z))] at h) H locs la hP hD hS hl)
theorem g_if_le (X : gX κ D cc own rm lc L) {a : Int} {off : Int} {tgt : Nat} {α : Type} {Y Z : Option α} {v : α} (h : (if wr a ≤ 0 then Y else Z) = some v) (hd : decode cc pc = .ok (.ifCond .le off, 3)) (ht : (pc : Int) + off = (tgt : Int)) (k1 : Y = some v → G κ D lay ad n1 n2 w (tgt) ls (st)) (k2 : Z = some v → G κ D lay ad n1 n2 w (pc + 3) ls (st)) : G κ D lay ad n1 n2 w (pc) ls (iv a :: st) := by
  obtain ⟨p, l, e0, R, s, m, args, below, meth, cd, Q, A, H0, nL⟩ := κ
  obtain ⟨hx, hb, hml, hown, hts, hK, hlocks, hA, rfl, rfl, rfl⟩ := X
  intro H locs la hP hD hS hl
  exact lv_if_le hx hb hd ht (fun q => k1 (by rwa [if_pos (i0le.mp q)] at h) H locs la hP hD hS hl) (fun q => k2 (by rwa [if_neg (fun z => q (i0le.mpr z))] at h) H locs la hP hD hS hl)
theorem g_icmp_eq (X : gX κ D cc own rm lc L) {a b : Int} {off : Int} {tgt : Nat} {α : Type} {Y Z : Option α} {v : α} (h : (if wr a = wr b then Y else Z) = some v) (hd : decode cc pc = .ok (.if_icmp .eq off, 3)) (ht : (pc : Int) + off = (tgt : Int)) (k1 : Y = some v → G κ D lay ad n1 n2 w (tgt) ls (st)) (k2 : Z = some v → G κ D lay ad n1 n2 w (pc + 3) ls (st)) : G κ D lay ad n1 n2 w (pc) ls (iv b :: iv a :: st) := by
  obtain ⟨p, l, e0, R, s, m, args, below, meth, cd, Q, A, H0, nL⟩ := κ
  obtain ⟨hx, hb, hml, hown, hts, hK, hlocks, hA, rfl, rfl, rfl⟩ := X
  intro H locs la hP hD hS hl
  exact lv_icmp_eq hx hb hd ht (fun q => k1 (by rwa [if_pos (iN_eq.mp q)] at h) H locs la hP hD hS hl) (fun q => k2 (by rwa [if_neg (fun z => q (iN_eq.mpr z))] at h) H locs la hP hD hS hl)
theorem g_icmp_ne (X : gX κ D cc own rm lc L) {a b : Int} {off : Int} {tgt : Nat} {α : Type} {Y Z : Option α} {v : α} (h : (if wr a = wr b then Z else Y) = some v) (hd : decode cc pc = .ok (.if_icmp .ne off, 3)) (ht : (pc : Int) + off = (tgt : Int)) (k1 : Y = some v → G κ D lay ad n1 n2 w (tgt) ls (st)) (k2 : Z = some v → G κ D lay ad n1 n2 w (pc + 3) ls (st)) : G κ D lay ad n1 n2 w (pc) ls (iv b :: iv a :: st) := by
  obtain ⟨p, l, e0, R, s, m, args, below, meth, cd, Q, A, H0, nL⟩ := κ
  obtain ⟨hx, hb, hml, hown, hts, hK, hlocks, hA, rfl, rfl, rfl⟩ := X
  intro H locs la hP hD hS hl
  exact lv_icmp_ne hx hb hd ht (fun q => k1 (by rwa [if_neg (fun z => q (iN_eq.mpr z))] at h) H locs la hP hD hS hl) (fun q => k2 (by rwa [if_pos (iN_eq.mp q)] at h) H locs la hP hD hS hl)
theorem g_icmp_lt (X : gX κ D cc own rm lc L) {a b : Int} {off : Int} {tgt : Nat} {α : Type} {Y Z : Option α} {v : α} (h : (if wr a < wr b then Y else Z) = some v) (hd : decode cc pc = .ok (.if_icmp .lt off, 3)) (ht : (pc : Int) + off = (tgt : Int)) (k1 : Y = some v → G κ D lay ad n1 n2 w (tgt) ls (st)) (k2 : Z = some v → G κ D lay ad n1 n2 w (pc + 3) ls (st)) : G κ D lay ad n1 n2 w (pc) ls (iv b :: iv a :: st) := by
  obtain ⟨p, l, e0, R, s, m, args, below, meth, cd, Q, A, H0, nL⟩ := κ
  obtain ⟨hx, hb, hml, hown, hts, hK, hlocks, hA, rfl, rfl, rfl⟩ := X
  intro H locs la hP hD hS hl
  exact lv_icmp_lt hx hb hd ht (fun q => k1 (by rwa [if_pos (iN_lt.mp q)] at h) H locs la hP hD hS hl) (fun q => k2 (by rwa [if_neg (fun z => q (iN_lt.mpr z))] at h) H locs la hP hD hS hl)
theorem g_icmp_ge (X : gX κ D cc own rm lc L) {a b : Int} {off : Int} {tgt : Nat} {α : Type} {Y Z : Option α} {v : α} (h : (if wr b ≤ wr a then Y else Z) = some v) (hd : decode cc pc = .ok (.if_icmp .ge off, 3)) (ht : (pc : Int) + off = (tgt : Int)) (k1 : Y = some v → G κ D lay ad n1 n2 w (tgt) ls (st)) (k2 : Z = some v → G κ D lay ad n1 n2 w (pc + 3) ls (st)) : G κ D lay ad n1 n2 w (pc) ls (iv b :: iv a :: st) := by
  obtain ⟨p, l, e0, R, s, m, args, below, meth, cd, Q, A, H0, nL⟩ := κ
  obtain ⟨hx, hb, hml, hown, hts, hK, hlocks, hA, rfl, rfl, rfl⟩ := X
  intro H locs la hP hD hS hl
  exact lv_icmp_ge hx hb hd ht (fun q => k1 (by rwa [if_pos (iN_le.mp q)] at h) H locs la hP hD hS hl) (fun q => k2 (by rwa [if_neg (fun z => q (iN_le.mpr z))] at h) H locs la hP hD hS hl)
theorem g_icmp_gt (X : gX κ D cc own rm lc L) {a b : Int} {off : Int} {tgt : Nat} {α : Type} {Y Z : Option α} {v : α} (h : (if wr b < wr a then Y else Z) = some v) (hd : decode cc pc = .ok (.if_icmp .gt off, 3)) (ht : (pc : Int) + off = (tgt : Int)) (k1 : Y = some v → G κ D lay ad n1 n2 w (tgt) ls (st)) (k2 : Z = some v → G κ D lay ad n1 n2 w (pc + 3) ls (st)) : G κ D lay ad n1 n2 w (pc) ls (iv b :: iv a :: st) := by
  obtain ⟨p, l, e0, R, s, m, args, below, meth, cd, Q, A, H0, nL⟩ := κ
  obtain ⟨hx, hb, hml, hown, hts, hK, hlocks, hA, rfl, rfl, rfl⟩ := X
  intro H locs la hP hD hS hl
  exact lv_icmp_gt hx hb hd ht (fun q => k1 (by rwa [if_pos (iN_lt.mp q)] at h) H locs la hP hD hS hl) (fun q => k2 (by rwa [if_neg (fun z => q (iN_lt.mpr z))] at h) H locs la hP hD hS hl)
theorem g_icmp_le (X : gX κ D cc own rm lc L) {a b : Int} {off : Int} {tgt : Nat} {α : Type} {Y Z : Option α} {v : α} (h : (if wr a ≤ wr b then Y else Z) = some v) (hd : decode cc pc = .ok (.if_icmp .le off, 3)) (ht : (pc : Int) + off = (tgt : Int)) (k1 : Y = some v → G κ D lay ad n1 n2 w (tgt) ls (st)) (k2 : Z = some v → G κ D lay ad n1 n2 w (pc + 3) ls (st)) : G κ D lay ad n1 n2 w (pc) ls (iv b :: iv a :: st) := by
  obtain ⟨p, l, e0, R, s, m, args, below, meth, cd, Q, A, H0, nL⟩ := κ
  obtain ⟨hx, hb, hml, hown, hts, hK, hlocks, hA, rfl, rfl, rfl⟩ := X
  intro H locs la hP hD hS hl
  exact lv_icmp_le hx hb hd ht (fun q => k1 (by rwa [if_pos (iN_le.mp q)] at h) H locs la hP hD hS hl) (fun q => k2 (by rwa [if_neg (fun z => q (iN_le.mpr z))] at h) H locs la hP hD hS hl)
theorem g_iald (X : gX κ D cc own rm lc L) {i : Int} {c n : Nat} {α : Type} {Z : Option α} {v : α} (h : (if 0 ≤ i ∧ i < (n : Int) then Z else none) = some v) (hc : lay[c]? = some (.inl (0, n))) (hn : n ≤ 2147483647) (hd : decode cc pc = .ok (.iaload, 1)) (k : Z = some v → G κ D lay ad n1 n2 w (pc + 1) ls (iv (w c i.toNat) :: st)) : G κ D lay ad n1 n2 w (pc) ls (iv i :: .ref (ad c) :: st) := by
  obtain ⟨p, l, e0, R, s, m, args, below, meth, cd, Q, A, H0, nL⟩ := κ
  obtain ⟨hx, hb, hml, hown, hts, hK, hlocks, hA, rfl, rfl, rfl⟩ := X
  intro H locs la hP hD hS hl
  by_cases hi : 0 ≤ i ∧ i < (n : Int)
  · rw [if_pos hi] at h
    have hi := hi
    have e := k h H locs la hP hD hS hl
    rw [show i.toNat = (iN i).toNatClampNeg from (iN_nat hi.1 (by omega)).symm] at e
    exact va_iald hx hb hK hP c 0 (cws_at0 hc) rfl (iN_in hi hn) hd e
  · rw [if_neg hi] at h
    cases h
theorem g_ialdC (X : gX κ D cc own rm lc L) (j : Nat) {i : Int} {c n : Nat} (hj : i = (j : Int)) (hlt : j < n) (hc : lay[c]? = some (.inl (0, n))) (hn : n ≤ 2147483647) (hd : decode cc pc = .ok (.iaload, 1)) (k : G κ D lay ad n1 n2 w (pc + 1) ls (iv (w c j) :: st)) : G κ D lay ad n1 n2 w (pc) ls (iv i :: .ref (ad c) :: st) := by
  obtain ⟨p, l, e0, R, s, m, args, below, meth, cd, Q, A, H0, nL⟩ := κ
  obtain ⟨hx, hb, hml, hown, hts, hK, hlocks, hA, rfl, rfl, rfl⟩ := X
  intro H locs la hP hD hS hl
  have hi0 : 0 ≤ i ∧ i < (n : Int) := by omega
  have ej : i.toNat = j := by omega
  rw [← ej] at k
  have hi := hi0
  have e := k H locs la hP hD hS hl
  rw [show i.toNat = (iN i).toNatClampNeg from (iN_nat hi.1 (by omega)).symm] at e
  exact va_iald hx hb hK hP c 0 (cws_at0 hc) rfl (iN_in hi hn) hd e
theorem g_zald (X : gX κ D cc own rm lc L) {i : Int} {c n : Nat} {α : Type} {Z : Option α} {v : α} (h : (if 0 ≤ i ∧ i < (n : Int) then Z else none) = some v) (hc : lay[c]? = some (.inl (2, n))) (hn : n ≤ 2147483647) (hd : decode cc pc = .ok (.baload, 1)) (k : Z = some v → G κ D lay ad n1 n2 w (pc + 1) ls (iv (w c i.toNat) :: st)) : G κ D lay ad n1 n2 w (pc) ls (iv i :: .ref (ad c) :: st) := by
  obtain ⟨p, l, e0, R, s, m, args, below, meth, cd, Q, A, H0, nL⟩ := κ
  obtain ⟨hx, hb, hml, hown, hts, hK, hlocks, hA, rfl, rfl, rfl⟩ := X
  intro H locs la hP hD hS hl
  by_cases hi : 0 ≤ i ∧ i < (n : Int)
  · rw [if_pos hi] at h
    have hi := hi
    have e := k h H locs la hP hD hS hl
    rw [show i.toNat = (iN i).toNatClampNeg from (iN_nat hi.1 (by omega)).symm] at e
    exact va_zald hx hb hK hP c 2 (cws_at0 hc) rfl (iN_in hi hn) hd e
  · rw [if_neg hi] at h
    cases h
theorem g_zaldC (X : gX κ D cc own rm lc L) (j : Nat) {i : Int} {c n : Nat} (hj : i = (j : Int)) (hlt : j < n) (hc : lay[c]? = some (.inl (2, n))) (hn : n ≤ 2147483647) (hd : decode cc pc = .ok (.baload, 1)) (k : G κ D lay ad n1 n2 w (pc + 1) ls (iv (w c j) :: st)) : G κ D lay ad n1 n2 w (pc) ls (iv i :: .ref (ad c) :: st) := by
  obtain ⟨p, l, e0, R, s, m, args, below, meth, cd, Q, A, H0, nL⟩ := κ
  obtain ⟨hx, hb, hml, hown, hts, hK, hlocks, hA, rfl, rfl, rfl⟩ := X
  intro H locs la hP hD hS hl
  have hi0 : 0 ≤ i ∧ i < (n : Int) := by omega
  have ej : i.toNat = j := by omega
  rw [← ej] at k
  have hi := hi0
  have e := k H locs la hP hD hS hl
  rw [show i.toNat = (iN i).toNatClampNeg from (iN_nat hi.1 (by omega)).symm] at e
  exact va_zald hx hb hK hP c 2 (cws_at0 hc) rfl (iN_in hi hn) hd e
theorem g_lald (X : gX κ D cc own rm lc L) {i : Int} {c n : Nat} {α : Type} {Z : Option α} {v : α} (h : (if 0 ≤ i ∧ i < (n : Int) then Z else none) = some v) (hc : lay[c]? = some (.inl (1, n))) (hn : n ≤ 2147483647) (hd : decode cc pc = .ok (.laload, 1)) (k : Z = some v → G κ D lay ad n1 n2 w (pc + 1) ls (jv (w c i.toNat) :: st)) : G κ D lay ad n1 n2 w (pc) ls (iv i :: .ref (ad c) :: st) := by
  obtain ⟨p, l, e0, R, s, m, args, below, meth, cd, Q, A, H0, nL⟩ := κ
  obtain ⟨hx, hb, hml, hown, hts, hK, hlocks, hA, rfl, rfl, rfl⟩ := X
  intro H locs la hP hD hS hl
  by_cases hi : 0 ≤ i ∧ i < (n : Int)
  · rw [if_pos hi] at h
    have hi := hi
    have e := k h H locs la hP hD hS hl
    rw [show i.toNat = (iN i).toNatClampNeg from (iN_nat hi.1 (by omega)).symm] at e
    exact va_lald hx hb hK hP c 1 (cws_at0 hc) rfl (iN_in hi hn) hd e
  · rw [if_neg hi] at h
    cases h
theorem g_laldC (X : gX κ D cc own rm lc L) (j : Nat) {i : Int} {c n : Nat} (hj : i = (j : Int)) (hlt : j < n) (hc : lay[c]? = some (.inl (1, n))) (hn : n ≤ 2147483647) (hd : decode cc pc = .ok (.laload, 1)) (k : G κ D lay ad n1 n2 w (pc + 1) ls (jv (w c j) :: st)) : G κ D lay ad n1 n2 w (pc) ls (iv i :: .ref (ad c) :: st) := by
  obtain ⟨p, l, e0, R, s, m, args, below, meth, cd, Q, A, H0, nL⟩ := κ
  obtain ⟨hx, hb, hml, hown, hts, hK, hlocks, hA, rfl, rfl, rfl⟩ := X
  intro H locs la hP hD hS hl
  have hi0 : 0 ≤ i ∧ i < (n : Int) := by omega
  have ej : i.toNat = j := by omega
  rw [← ej] at k
  have hi := hi0
  have e := k H locs la hP hD hS hl
  rw [show i.toNat = (iN i).toNatClampNeg from (iN_nat hi.1 (by omega)).symm] at e
  exact va_lald hx hb hK hP c 1 (cws_at0 hc) rfl (iN_in hi hn) hd e
theorem g_iast (X : gX κ D cc own rm lc L) {i x : Int} {c n : Nat} {α : Type} {Z : Option α} {v : α} (h : (if 0 ≤ i ∧ i < (n : Int) then Z else none) = some v) (hc : lay[c]? = some (.inl (0, n))) (hn : n ≤ 2147483647) (hd : decode cc pc = .ok (.iastore, 1)) (k : Z = some v → G κ D lay ad n1 n2 (wset w c i.toNat x) (pc + 1) ls (st)) : G κ D lay ad n1 n2 w (pc) ls (iv x :: iv i :: .ref (ad c) :: st) := by
  obtain ⟨p, l, e0, R, s, m, args, below, meth, cd, Q, A, H0, nL⟩ := κ
  obtain ⟨hx, hb, hml, hown, hts, hK, hlocks, hA, rfl, rfl, rfl⟩ := X
  intro H locs la hP hD hS hl
  by_cases hi : 0 ≤ i ∧ i < (n : Int)
  · rw [if_pos hi] at h
    have KK := k h
    refine va_iast hx hb hK hP hD hS c 0 (cws_at0 hc) rfl (iN_in hi hn) hd (fun H1 locs1 hP1 hD1 hS1 => ?_)
    have e : (cws D ad w 0 lay).set c (ad c, ke D ad (wset w c i.toNat x c) (.inl (0, n))) = cws D ad (wset w c i.toNat x) 0 lay := cws_set0 hc wset_far
    have e2 : upd (fun k => iN (w c k)) (iN i).toNatClampNeg (iN x) = fun k => iN (wset w c i.toNat x c k) := by
      rw [iN_nat hi.1 (by omega), wset_here]
      funext q
      by_cases hq : q = i.toNat
      · simp [upd, hq]
      · simp [upd, hq]
    rw [e2] at hP1 hD1
    exact KK H1 locs1 la (e ▸ hP1) (e ▸ hD1) hS1 hl
  · rw [if_neg hi] at h
    cases h
theorem g_iastC (X : gX κ D cc own rm lc L) (j : Nat) {i x : Int} {c n : Nat} (hj : i = (j : Int)) (hlt : j < n) (hc : lay[c]? = some (.inl (0, n))) (hn : n ≤ 2147483647) (hd : decode cc pc = .ok (.iastore, 1)) (k : G κ D lay ad n1 n2 (wset w c j x) (pc + 1) ls (st)) : G κ D lay ad n1 n2 w (pc) ls (iv x :: iv i :: .ref (ad c) :: st) := by
  obtain ⟨p, l, e0, R, s, m, args, below, meth, cd, Q, A, H0, nL⟩ := κ
  obtain ⟨hx, hb, hml, hown, hts, hK, hlocks, hA, rfl, rfl, rfl⟩ := X
  intro H locs la hP hD hS hl
  have hi : 0 ≤ i ∧ i < (n : Int) := by omega
  have ej : i.toNat = j := by omega
  rw [← ej] at k
  have KK := k
  refine va_iast hx hb hK hP hD hS c 0 (cws_at0 hc) rfl (iN_in hi hn) hd (fun H1 locs1 hP1 hD1 hS1 => ?_)
  have e : (cws D ad w 0 lay).set c (ad c, ke D ad (wset w c i.toNat x c) (.inl (0, n))) = cws D ad (wset w c i.toNat x) 0 lay := cws_set0 hc wset_far
  have e2 : upd (fun k => iN (w c k)) (iN i).toNatClampNeg (iN x) = fun k => iN (wset w c i.toNat x c k) := by
    rw [iN_nat hi.1 (by omega), wset_here]
    funext q
    by_cases hq : q = i.toNat
    · simp [upd, hq]
    · simp [upd, hq]
  rw [e2] at hP1 hD1
  exact KK H1 locs1 la (e ▸ hP1) (e ▸ hD1) hS1 hl
theorem g_last (X : gX κ D cc own rm lc L) {i x : Int} {c n : Nat} {α : Type} {Z : Option α} {v : α} (h : (if 0 ≤ i ∧ i < (n : Int) then Z else none) = some v) (hc : lay[c]? = some (.inl (1, n))) (hn : n ≤ 2147483647) (hd : decode cc pc = .ok (.lastore, 1)) (k : Z = some v → G κ D lay ad n1 n2 (wset w c i.toNat x) (pc + 1) ls (st)) : G κ D lay ad n1 n2 w (pc) ls (jv x :: iv i :: .ref (ad c) :: st) := by
  obtain ⟨p, l, e0, R, s, m, args, below, meth, cd, Q, A, H0, nL⟩ := κ
  obtain ⟨hx, hb, hml, hown, hts, hK, hlocks, hA, rfl, rfl, rfl⟩ := X
  intro H locs la hP hD hS hl
  by_cases hi : 0 ≤ i ∧ i < (n : Int)
  · rw [if_pos hi] at h
    have KK := k h
    refine va_last hx hb hK hP hD hS c 1 (cws_at0 hc) rfl (iN_in hi hn) hd (fun H1 locs1 hP1 hD1 hS1 => ?_)
    have e : (cws D ad w 0 lay).set c (ad c, ke D ad (wset w c i.toNat x c) (.inl (1, n))) = cws D ad (wset w c i.toNat x) 0 lay := cws_set0 hc wset_far
    have e2 : vp_updL (fun k => jN (w c k)) (iN i).toNatClampNeg (jN x) = fun k => jN (wset w c i.toNat x c k) := by
      rw [iN_nat hi.1 (by omega), wset_here]
      funext q
      by_cases hq : q = i.toNat
      · simp [vp_updL, hq]
      · simp [vp_updL, hq]
    rw [e2] at hP1 hD1
    exact KK H1 locs1 la (e ▸ hP1) (e ▸ hD1) hS1 hl
  · rw [if_neg hi] at h
    cases h
theorem g_lastC (X : gX κ D cc own rm lc L) (j : Nat) {i x : Int} {c n : Nat} (hj : i = (j : Int)) (hlt : j < n) (hc : lay[c]? = some (.inl (1, n))) (hn : n ≤ 2147483647) (hd : decode cc pc = .ok (.lastore, 1)) (k : G κ D lay ad n1 n2 (wset w c j x) (pc + 1) ls (st)) : G κ D lay ad n1 n2 w (pc) ls (jv x :: iv i :: .ref (ad c) :: st) := by
  obtain ⟨p, l, e0, R, s, m, args, below, meth, cd, Q, A, H0, nL⟩ := κ
  obtain ⟨hx, hb, hml, hown, hts, hK, hlocks, hA, rfl, rfl, rfl⟩ := X
  intro H locs la hP hD hS hl
  have hi : 0 ≤ i ∧ i < (n : Int) := by omega
  have ej : i.toNat = j := by omega
  rw [← ej] at k
  have KK := k
  refine va_last hx hb hK hP hD hS c 1 (cws_at0 hc) rfl (iN_in hi hn) hd (fun H1 locs1 hP1 hD1 hS1 => ?_)
  have e : (cws D ad w 0 lay).set c (ad c, ke D ad (wset w c i.toNat x c) (.inl (1, n))) = cws D ad (wset w c i.toNat x) 0 lay := cws_set0 hc wset_far
  have e2 : vp_updL (fun k => jN (w c k)) (iN i).toNatClampNeg (jN x) = fun k => jN (wset w c i.toNat x c k) := by
    rw [iN_nat hi.1 (by omega), wset_here]
    funext q
    by_cases hq : q = i.toNat
    · simp [vp_updL, hq]
    · simp [vp_updL, hq]
  rw [e2] at hP1 hD1
  exact KK H1 locs1 la (e ▸ hP1) (e ▸ hD1) hS1 hl
theorem g_zast (X : gX κ D cc own rm lc L) {i x : Int} {c n : Nat} {α : Type} {Z : Option α} {v : α} (h : (if (0 ≤ i ∧ i < (n : Int)) ∧ (x = 0 ∨ x = 1) then Z else none) = some v) (hc : lay[c]? = some (.inl (2, n))) (hn : n ≤ 2147483647) (hd : decode cc pc = .ok (.bastore, 1)) (k : Z = some v → G κ D lay ad n1 n2 (wset w c i.toNat x) (pc + 1) ls (st)) : G κ D lay ad n1 n2 w (pc) ls (iv x :: iv i :: .ref (ad c) :: st) := by
  obtain ⟨p, l, e0, R, s, m, args, below, meth, cd, Q, A, H0, nL⟩ := κ
  obtain ⟨hx, hb, hml, hown, hts, hK, hlocks, hA, rfl, rfl, rfl⟩ := X
  intro H locs la hP hD hS hl
  by_cases hi : (0 ≤ i ∧ i < (n : Int)) ∧ (x = 0 ∨ x = 1)
  · rw [if_pos hi] at h
    have KK := k h
    obtain ⟨hi, hz⟩ := hi
    refine va_zast hx hb hK hP hD hS c 2 (cws_at0 hc) rfl (iN_in hi hn) hd (fun H1 locs1 hP1 hD1 hS1 => ?_)
    have e : (cws D ad w 0 lay).set c (ad c, ke D ad (wset w c i.toNat x c) (.inl (2, n))) = cws D ad (wset w c i.toNat x) 0 lay := cws_set0 hc wset_far
    have e2 : upd (fun k => iN (w c k)) (iN i).toNatClampNeg (vp_nar .boolean (iN x)) = fun k => iN (wset w c i.toNat x c k) := by
      rw [iN_nat hi.1 (by omega), wset_here, show vp_nar .boolean (iN x) = iN x by rcases hz with rfl | rfl <;> rfl]
      funext q
      by_cases hq : q = i.toNat
      · simp [upd, hq]
      · simp [upd, hq]
    rw [e2] at hP1 hD1
    exact KK H1 locs1 la (e ▸ hP1) (e ▸ hD1) hS1 hl
  · rw [if_neg hi] at h
    cases h
theorem g_alen (X : gX κ D cc own rm lc L) {c t n : Nat} (x : Int) (hc : lay[c]? = some (.inl (t, n))) (ht : t ≤ 2) (hx2 : Int32.ofNat n = iN x) (hd : decode cc pc = .ok (.arraylength, 1)) (k : G κ D lay ad n1 n2 w (pc + 1) ls (iv x :: st)) : G κ D lay ad n1 n2 w (pc) ls (.ref (ad c) :: st) := by
  obtain ⟨p, l, e0, R, s, m, args, below, meth, cd, Q, A, H0, nL⟩ := κ
  obtain ⟨hx, hb, hml, hown, hts, hK, hlocks, hA, rfl, rfl, rfl⟩ := X
  intro H locs la hP hD hS hl
  rcases (show t = 0 ∨ t = 1 ∨ t = 2 by omega) with rfl | rfl | rfl
  · exact va_alen hx hb hK hP c 0 (cws_at0 hc) rfl hx2 hd (k H locs la hP hD hS hl)
  · exact va_alen hx hb hK hP c 1 (cws_at0 hc) rfl hx2 hd (k H locs la hP hD hS hl)
  · exact va_alen hx hb hK hP c 2 (cws_at0 hc) rfl hx2 hd (k H locs la hP hD hS hl)
theorem g_getr (X : gX κ D cc own rm lc L) {c ci k0 c1 index N : Nat} {C ref : String} {T : u_T} {fs : List (Option (Option Nat))} (hc : lay[c]? = some (.inr (ci, fs))) (hci : vwCl[ci]? = some (C, T, N)) (hin : ∀ w ∈ u_ws C T N, w ∈ Wu) (hk : k0 < N) (hf : fs[k0]? = some (some (some c1))) (hw : Cond.fieldLink own index ref (T k0).2.1 (T k0).2.2.1 ∈ Wu) (hr : (T k0).1 = ref) (hd : decode cc pc = .ok (.getfield index, 3)) (k : G κ D lay ad n1 n2 w (pc + 3) ls (.ref (ad c1) :: st)) : G κ D lay ad n1 n2 w (pc) ls (.ref (ad c) :: st) := by
  obtain ⟨p, l, e0, R, s, m, args, below, meth, cd, Q, A, H0, nL⟩ := κ
  obtain ⟨hx, hb, hml, hown, hts, hK, hlocks, hA, rfl, rfl, rfl⟩ := X
  intro H locs la hP hD hS hl
  exact va_get hx hb hts hin hown hK hP c (cws_at0 hc) hci k0 hk (hts _ hw) (fun x h => by rw [← hr]; exact h) (kf_at hf) hd (k H locs la hP hD hS hl)
theorem g_geti (X : gX κ D cc own rm lc L) {c ci k0 index N : Nat} {C ref : String} {T : u_T} {fs : List (Option (Option Nat))} (hc : lay[c]? = some (.inr (ci, fs))) (hci : vwCl[ci]? = some (C, T, N)) (hin : ∀ w ∈ u_ws C T N, w ∈ Wu) (hk : k0 < N) (hf : fs[k0]? = some (some none)) (hw : Cond.fieldLink own index ref (T k0).2.1 (T k0).2.2.1 ∈ Wu) (hr : (T k0).1 = ref) (hd : decode cc pc = .ok (.getfield index, 3)) (k : G κ D lay ad n1 n2 w (pc + 3) ls (iv (w c k0) :: st)) : G κ D lay ad n1 n2 w (pc) ls (.ref (ad c) :: st) := by
  obtain ⟨p, l, e0, R, s, m, args, below, meth, cd, Q, A, H0, nL⟩ := κ
  obtain ⟨hx, hb, hml, hown, hts, hK, hlocks, hA, rfl, rfl, rfl⟩ := X
  intro H locs la hP hD hS hl
  have e := kf_at (ad := ad) (u := w c) (i := 0) hf
  rw [Nat.zero_add] at e
  exact va_get hx hb hts hin hown hK hP c (cws_at0 hc) hci k0 hk (hts _ hw) (fun x h => by rw [← hr]; exact h) e hd (k H locs la hP hD hS hl)
theorem g_puti (X : gX κ D cc own rm lc L) {c ci k0 index N : Nat} {x : Int} {C ref : String} {T : u_T} (ty0 : Nat → FieldType) (hty : ∀ k, k < N → parseFieldDescriptor (T k).2.2.1 = some (ty0 k)) (hnm : ∀ a, a < N → ∀ b, b < N → a ≠ b → (T a).2.1 ≠ (T b).2.1) {fs : List (Option (Option Nat))} (hc : lay[c]? = some (.inr (ci, fs))) (hci : vwCl[ci]? = some (C, T, N)) (hin : ∀ w ∈ u_ws C T N, w ∈ Wu) (hk : k0 < N) (hf : fs[k0]? = some (some none)) (hw : Cond.fieldLink own index ref (T k0).2.1 (T k0).2.2.1 ∈ Wu) (hr : (T k0).1 = ref) (hfin : (T k0).2.2.2 = false) (hdi : parseFieldDescriptor (T k0).2.2.1 = some .int) (hd : decode cc pc = .ok (.putfield index, 3)) (k : G κ D lay ad n1 n2 (wset w c k0 x) (pc + 3) ls (st)) : G κ D lay ad n1 n2 w (pc) ls (iv x :: .ref (ad c) :: st) := by
  obtain ⟨p, l, e0, R, s, m, args, below, meth, cd, Q, A, H0, nL⟩ := κ
  obtain ⟨hx, hb, hml, hown, hts, hK, hlocks, hA, rfl, rfl, rfl⟩ := X
  intro H locs la hP hD hS hl
  refine va_put (ty := .int) hx hb hts hin ty0 hty hnm hown hK hP hD hS c (cws_at0 hc) hci k0 hk (hts _ hw) (fun x h => by rw [← hr]; exact h) hfin hdi (vp_nar_int _) rfl (by rw [kf_len]; exact (List.getElem?_eq_some_iff.mp hf).1) hd (fun H1 locs1 hP1 hD1 hS1 => ?_)
  have e : (cws D ad w 0 lay).set c (ad c, ke D ad (wset w c k0 x c) (.inr (ci, fs))) = cws D ad (wset w c k0 x) 0 lay := cws_set0 hc wset_far
  have e2 : (kf ad (w c) 0 fs).set k0 (iv x) = kf ad (wset w c k0 x c) 0 fs := by
    have := kf_set (ad := ad) (u := w c) (u' := wset w c k0 x c) (i := 0) hf (fun b hb => by rw [wset_here]; simp at hb; simp [hb])
    rw [Nat.zero_add, wset_here] at this
    rw [wset_here]
    simpa using this
  rw [e2] at hP1 hD1
  exact k H1 locs1 la (e ▸ hP1) (e ▸ hD1) hS1 hl
theorem g_tableIn (X : gX κ D cc own rm lc L) {a : Int} (i : Int) (hi : wr a = i) {dflt lo hi2 : Int} {offs : Array Int} {len : Nat} {off : Int} {tgt : Nat} (hd : decode cc pc = .ok (.tableswitch dflt lo hi2 offs, len)) (h1 : ¬ i < lo) (h2 : ¬ hi2 < i) (ho : offs[(i - lo).toNat]? = some off) (ht : (pc : Int) + off = (tgt : Int)) (k : G κ D lay ad n1 n2 w (tgt) ls (st)) : G κ D lay ad n1 n2 w (pc) ls (iv a :: st) := by
  obtain ⟨p, l, e0, R, s, m, args, below, meth, cd, Q, A, H0, nL⟩ := κ
  obtain ⟨hx, hb, hml, hown, hts, hK, hlocks, hA, rfl, rfl, rfl⟩ := X
  intro H locs la hP hD hS hl
  subst hi
  exact lv_tableIn hx hb hd h1 h2 ho ht (k H locs la hP hD hS hl)
theorem g_tableOut (X : gX κ D cc own rm lc L) {a : Int} {dflt lo hi2 : Int} {offs : Array Int} {len : Nat} {tgt : Nat} (h : wr a < lo ∨ hi2 < wr a) (hd : decode cc pc = .ok (.tableswitch dflt lo hi2 offs, len)) (ht : (pc : Int) + dflt = (tgt : Int)) (k : G κ D lay ad n1 n2 w (tgt) ls (st)) : G κ D lay ad n1 n2 w (pc) ls (iv a :: st) := by
  obtain ⟨p, l, e0, R, s, m, args, below, meth, cd, Q, A, H0, nL⟩ := κ
  obtain ⟨hx, hb, hml, hown, hts, hK, hlocks, hA, rfl, rfl, rfl⟩ := X
  intro H locs la hP hD hS hl
  exact lv_tableOut hx hb hd h ht (k H locs la hP hD hS hl)
end Rows

/-! The world of a run as a table of whole numbers, and the machine's rows over it. -/
abbrev Wd : Type := Nat → Nat → Int
/-- a cell's kind: a row (0 int, 1 long, else boolean; its length), or an object (its number in vwCl; its fields: none null, some none a number, some (some c) the cell c) -/
abbrev Kd : Type := (Nat × Nat) ⊕ (Nat × List (Option (Option Nat)))
abbrev CX : Type := va_G × ClassId × ClassId × ClassId
def iN (x : Int) : Int32 := Int32.ofInt x
def jN (x : Int) : Int64 := Int64.ofInt x
def iv (x : Int) : Value := .int (iN x)
def jv (x : Int) : Value := .long (jN x)
def wr (x : Int) : Int := (iN x).toInt
def wl (x : Int) : Int := (jN x).toInt
def kf (ad : Nat → Nat) (u : Nat → Int) : Nat → List (Option (Option Nat)) → List Value
  | _, [] => []
  | k, none :: t => .null :: kf ad u (k + 1) t
  | k, some none :: t => iv (u k) :: kf ad u (k + 1) t
  | k, some (some c) :: t => .ref (ad c) :: kf ad u (k + 1) t
def ke (D : CX) (ad : Nat → Nat) (u : Nat → Int) (k : Kd) : va_E := match k with
  | .inl (0, n) => .inl (D.2.1, n, .inl (fun k => iN (u k)))
  | .inl (1, n) => .inl (D.2.2.1, n, .inr (.inl (fun k => jN (u k))))
  | .inl (_, n) => .inl (D.2.2.2, n, .inl (fun k => iN (u k)))
  | .inr (ci, fs) => .inr (ci, kf ad u 0 fs)
def cws (D : CX) (ad : Nat → Nat) (w : Wd) : Nat → List Kd → va_W
  | _, [] => []
  | i, k :: t => (ad i, ke D ad (w i) k) :: cws D ad w (i + 1) t
def tyl (D : CX) : List (ClassId × FieldType) := [(D.2.1, .int), (D.2.2.1, .long), (D.2.2.2, .boolean)]
def wset (w : Wd) (c k : Nat) (v : Int) : Wd := fun a b => if a = c then (if b = k then v else w c b) else w a b
theorem cws_at {D : CX} {ad : Nat → Nat} {w : Wd} : ∀ {lay : List Kd} {i c : Nat} {k : Kd}, lay[c]? = some k → (cws D ad w i lay)[c]? = some (ad (i + c), ke D ad (w (i + c)) k)
  | [], _, _, _, h => by simp at h
  | x :: t, i, 0, k, h => by
    rw [List.getElem?_cons_zero] at h
    cases h
    rfl
  | x :: t, i, c + 1, k, h => by
    rw [List.getElem?_cons_succ] at h
    have := cws_at (D := D) (ad := ad) (w := w) (i := i + 1) h
    rw [show i + 1 + c = i + (c + 1) by omega] at this
    exact this
theorem cws_at0 {D : CX} {ad : Nat → Nat} {w : Wd} {lay : List Kd} {c : Nat} {k : Kd} (h : lay[c]? = some k) : (cws D ad w 0 lay)[c]? = some (ad c, ke D ad (w c) k) := by
  have := cws_at (D := D) (ad := ad) (w := w) (i := 0) h
  rwa [Nat.zero_add] at this
theorem cws_in {D : CX} {ad : Nat → Nat} {w : Wd} : ∀ {lay : List Kd} {i c : Nat} {q : Nat × va_E}, (cws D ad w i lay)[c]? = some q → c < lay.length ∧ q.1 = ad (i + c)
  | [], _, _, _, h => by simp [cws] at h
  | x :: t, i, 0, q, h => by
    simp only [cws, List.getElem?_cons_zero, Option.some.injEq] at h
    subst h
    exact ⟨by simp, rfl⟩
  | x :: t, i, c + 1, q, h => by
    simp only [cws, List.getElem?_cons_succ] at h
    have := cws_in h
    refine ⟨by simp; omega, ?_⟩
    rw [this.2, show i + 1 + c = i + (c + 1) by omega]
theorem cws_far {D : CX} {ad : Nat → Nat} {w w' : Wd} : ∀ {lay : List Kd} {i : Nat}, (∀ a, i ≤ a → w' a = w a) → cws D ad w' i lay = cws D ad w i lay
  | [], _, _ => rfl
  | x :: t, i, h => by
    simp only [cws]
    rw [h i (Nat.le_refl i), cws_far (fun a ha => h a (by omega))]
/-- one cell's row is changed -/
theorem cws_set {D : CX} {ad : Nat → Nat} {w w' : Wd} : ∀ {lay : List Kd} {i c : Nat} {k : Kd}, lay[c]? = some k → (∀ a, a ≠ i + c → w' a = w a) → (cws D ad w i lay).set c (ad (i + c), ke D ad (w' (i + c)) k) = cws D ad w' i lay
  | [], _, _, _, h, _ => by simp at h
  | x :: t, i, 0, k, h, hw => by
    rw [List.getElem?_cons_zero] at h
    cases h
    simp only [cws, List.set_cons_zero]
    rw [cws_far (w := w) (w' := w') (fun a ha => hw a (by omega))]
    rfl
  | x :: t, i, c + 1, k, h, hw => by
    rw [List.getElem?_cons_succ] at h
    simp only [cws, List.set_cons_succ]
    have := cws_set (D := D) (ad := ad) (w := w) (w' := w') (i := i + 1) h (fun a ha => hw a (by omega))
    rw [show i + 1 + c = i + (c + 1) by omega] at this
    rw [this, hw i (by omega)]
theorem cws_set0 {D : CX} {ad : Nat → Nat} {w w' : Wd} {lay : List Kd} {c : Nat} {k : Kd} (h : lay[c]? = some k) (hw : ∀ a, a ≠ c → w' a = w a) : (cws D ad w 0 lay).set c (ad c, ke D ad (w' c) k) = cws D ad w' 0 lay := by
  have := cws_set (D := D) (ad := ad) (w := w) (w' := w') (i := 0) h (fun a ha => hw a (by omega))
  rwa [Nat.zero_add] at this
theorem wset_far {w : Wd} {c k : Nat} {v : Int} (a : Nat) (h : a ≠ c) : wset w c k v a = w a := by
  funext b
  simp [wset, h]
theorem wset_here {w : Wd} {c k : Nat} {v : Int} : wset w c k v c = fun b => if b = k then v else w c b := by
  funext b
  simp [wset]
theorem kf_at {ad : Nat → Nat} {u : Nat → Int} : ∀ {fs : List (Option (Option Nat))} {i k : Nat} {f : Option (Option Nat)}, fs[k]? = some f → (kf ad u i fs)[k]? = some (match f with | none => .null | some none => iv (u (i + k)) | some (some c) => .ref (ad c))
  | [], _, _, _, h => by simp at h
  | x :: t, i, 0, f, h => by
    rw [List.getElem?_cons_zero] at h
    cases h
    rcases x with _ | _ | c <;> rfl
  | x :: t, i, k + 1, f, h => by
    rw [List.getElem?_cons_succ] at h
    have := kf_at (ad := ad) (u := u) (i := i + 1) h
    rw [show i + 1 + k = i + (k + 1) by omega] at this
    rcases x with _ | _ | c <;> exact this
theorem kf_far {ad : Nat → Nat} {u u' : Nat → Int} : ∀ {fs : List (Option (Option Nat))} {i : Nat}, (∀ b, i ≤ b → u' b = u b) → kf ad u' i fs = kf ad u i fs
  | [], _, _ => rfl
  | x :: t, i, h => by
    have e := kf_far (ad := ad) (fs := t) (i := i + 1) (fun b hb => h b (by omega))
    rcases x with _ | _ | c <;> simp only [kf, e, h i (Nat.le_refl i)]
theorem kf_set {ad : Nat → Nat} {u u' : Nat → Int} : ∀ {fs : List (Option (Option Nat))} {i k : Nat}, fs[k]? = some (some none) → (∀ b, b ≠ i + k → u' b = u b) → (kf ad u i fs).set k (iv (u' (i + k))) = kf ad u' i fs
  | [], _, _, h, _ => by simp at h
  | x :: t, i, 0, h, hu => by
    rw [List.getElem?_cons_zero] at h
    cases h
    simp only [kf, List.set_cons_zero]
    rw [kf_far (u := u) (u' := u') (fun b hb => hu b (by omega))]
    rfl
  | x :: t, i, k + 1, h, hu => by
    rw [List.getElem?_cons_succ] at h
    have e := kf_set (ad := ad) (u := u) (u' := u') (i := i + 1) h (fun b hb => hu b (by omega))
    rw [show i + 1 + k = i + (k + 1) by omega] at e
    rcases x with _ | _ | c <;> simp only [kf, List.set_cons_succ, e, hu i (by omega)]
theorem kf_len {ad : Nat → Nat} {u : Nat → Int} : ∀ {fs : List (Option (Option Nat))} {i : Nat}, (kf ad u i fs).length = fs.length
  | [], _ => rfl
  | x :: t, i => by rcases x with _ | _ | c <;> simp [kf, kf_len (fs := t)]
/-! numbers -/
theorem iN_add (a b : Int) : iN a + iN b = iN (a + b) := by unfold iN; rw [Int32.ofInt_add]
theorem iN_sub (a b : Int) : iN a - iN b = iN (a - b) := by unfold iN; rw [Int32.ofInt_sub]
theorem iN_mul (a b : Int) : iN a * iN b = iN (a * b) := by unfold iN; rw [Int32.ofInt_mul]
theorem iN_neg (a : Int) : - iN a = iN (-a) := by unfold iN; rw [Int32.ofInt_neg]
theorem jN_add (a b : Int) : jN a + jN b = jN (a + b) := by unfold jN; rw [Int64.ofInt_add]
theorem jN_sub (a b : Int) : jN a - jN b = jN (a - b) := by unfold jN; rw [Int64.ofInt_sub]
theorem iN_toInt (x : Int32) : iN x.toInt = x := by unfold iN; exact Int32.ofInt_toInt x
theorem jN_toInt (x : Int64) : jN x.toInt = x := by unfold jN; exact Int64.ofInt_toInt x
theorem wr_id {x : Int} (h1 : -2147483648 ≤ x) (h2 : x ≤ 2147483647) : wr x = x := by
  unfold wr iN
  exact Int32.toInt_ofInt_of_le (by omega) (by omega)
theorem wl_id {x : Int} (h1 : -9223372036854775808 ≤ x) (h2 : x ≤ 9223372036854775807) : wl x = x := by
  unfold wl jN
  exact Int64.toInt_ofInt_of_le (by omega) (by omega)
theorem iN_lt {a b : Int} : iN a < iN b ↔ wr a < wr b := by unfold wr; exact Int32.lt_iff_toInt_lt
theorem iN_le {a b : Int} : iN a ≤ iN b ↔ wr a ≤ wr b := by unfold wr; exact Int32.le_iff_toInt_le
theorem iN_eq {a b : Int} : iN a = iN b ↔ wr a = wr b := by unfold wr; exact Int32.toInt_inj.symm
theorem iN_0 : iN 0 = 0 := rfl
theorem iN_eq0 {a : Int} : iN a = 0 ↔ wr a = 0 := by
  rw [← iN_0, iN_eq]
  rfl
theorem iN_nat {i : Int} (h : 0 ≤ i) (h2 : i ≤ 2147483647) : (iN i).toNatClampNeg = i.toNat := by
  have e : (iN i).toInt = i := wr_id (by omega) h2
  show (iN i).toInt.toNat = _
  rw [e]
theorem iN_in {i : Int} {n : Nat} (h : 0 ≤ i ∧ i < (n : Int)) (hn : n ≤ 2147483647) : vp_in (iN i) n := by
  rw [vp_in_iff]
  have e : (iN i).toInt = i := wr_id (by omega) (by omega)
  rw [e]
  exact h
/-! the operations that go by the bits -/
def band (a b : Int) : Int := (iN a &&& iN b).toInt
def bor (a b : Int) : Int := (iN a ||| iN b).toInt
def bxor (a b : Int) : Int := (iN a ^^^ iN b).toInt
def bshl (a b : Int) : Int := (iN a <<< (iN b &&& 31)).toInt
def bshr (a b : Int) : Int := (iN a >>> (iN b &&& 31)).toInt
def bushr (a b : Int) : Int := ((iN a).toUInt32 >>> ((iN b).toUInt32 &&& Int32.toUInt32 31)).toInt32.toInt
def bdiv (a b : Int) : Int := (iN a / iN b).toInt
def brem (a b : Int) : Int := (iN a - iN a / iN b * iN b).toInt
def land (a b : Int) : Int := (jN a &&& jN b).toInt
def lshl (a b : Int) : Int := (jN a <<< ((iN b).toInt64 &&& 63)).toInt
def lshr (a b : Int) : Int := (jN a >>> ((iN b).toInt64 &&& 63)).toInt
def bcmp (a b : Int) : Int := (lg_cmp (jN a) (jN b)).toInt

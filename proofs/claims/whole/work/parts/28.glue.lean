/-! The two searches find the same berths. -/
def numI (B : Nat) (d : Int → Nat) : Nat → Int → Nat
  | 0, _ => 0
  | m + 1, i => d i * B ^ m + numI B d m (i + 1)
theorem numI_lt {B : Nat} {d : Int → Nat} : ∀ (m : Nat) (i : Int), (∀ s, i ≤ s → s < i + m → d s < B) → numI B d m i < B ^ m
  | 0, i, _ => by simp [numI]
  | m + 1, i, h => by
    have h1 := h i (by omega) (by omega)
    have h2 := numI_lt m (i + 1) (fun s a b => h s (by omega) (by omega))
    have h3 : (d i + 1) * B ^ m ≤ B * B ^ m := Nat.mul_le_mul_right _ h1
    rw [numI, Nat.pow_succ, Nat.mul_comm (B ^ m)]
    rw [Nat.add_mul, Nat.one_mul] at h3
    omega
theorem numI_digit {B : Nat} (hB : 0 < B) {d : Int → Nat} : ∀ (m : Nat) (i : Int) (t : Nat), t < m → (∀ s, i ≤ s → s < i + m → d s < B) → numI B d m i / B ^ (m - 1 - t) % B = d (i + t)
  | 0, i, t, ht, _ => by omega
  | m + 1, i, t, ht, h => by
    have h1 := h i (by omega) (by omega)
    have h2 := numI_lt m (i + 1) (fun s a b => h s (by omega) (by omega))
    have hp : 0 < B ^ m := Nat.pow_pos hB
    rw [numI]
    by_cases e : t = 0
    · subst e
      rw [show m + 1 - 1 - 0 = m by omega, Nat.mul_comm, Nat.mul_add_div hp, Nat.div_eq_of_lt h2, Nat.add_zero, Nat.mod_eq_of_lt h1]
      simp
    · have ih := numI_digit hB m (i + 1) (t - 1) (by omega) (fun s a b => h s (by omega) (by omega))
      have hq : 0 < B ^ (m - 1 - (t - 1)) := Nat.pow_pos hB
      have e1 : d i * B ^ m = B ^ (m - 1 - (t - 1)) * (d i * B ^ t) := by
        rw [show m = (m - 1 - (t - 1)) + t by omega, Nat.pow_add, show (m - 1 - (t - 1)) + t - 1 - (t - 1) = m - 1 - (t - 1) by omega]
        rw [Nat.mul_left_comm]
      rw [show m + 1 - 1 - t = m - 1 - (t - 1) by omega, e1, Nat.mul_add_div hq, Nat.add_mod, ih]
      have e2 : d i * B ^ t % B = 0 := by
        rw [show t = (t - 1) + 1 by omega, Nat.pow_succ, ← Nat.mul_assoc]
        exact Nat.mul_mod_left _ _
      have h3 := h (i + t) (by omega) (by omega)
      rw [e2, Nat.zero_add, show i + 1 + ((t - 1 : Nat) : Int) = i + t by omega, Nat.mod_eq_of_lt h3]
theorem numI_of {B k : Nat} : ∀ (m : Nat) (i : Int) (N : Nat), i + m = N → 0 ≤ i → numI B (fun s => k / B ^ (N - 1 - s.toNat) % B) m i = k % B ^ m
  | 0, i, N, _, _ => by simp [numI, Nat.mod_one]
  | m + 1, i, N, h, h0 => by
    rw [numI, numI_of m (i + 1) N (by omega) (by omega), show N - 1 - i.toNat = m by omega, Nat.mod_pow_succ, Nat.mul_comm, Nat.add_comm]
theorem numI_congr {B : Nat} {d e : Int → Nat} : ∀ (m : Nat) (i : Int), (∀ s, i ≤ s → s < i + m → d s = e s) → numI B d m i = numI B e m i
  | 0, _, _ => rfl
  | m + 1, i, h => by
    rw [numI, numI, h i (by omega) (by omega), numI_congr m (i + 1) (fun s a b => h s (by omega) (by omega))]
theorem digit_lt {P a b X Y : Nat} (hX : X < P) (hY : Y < P) : a * P + X < b * P + Y ↔ a < b ∨ (a = b ∧ X < Y) := by
  constructor
  · intro h
    rcases Nat.lt_trichotomy a b with c | c | c
    · exact Or.inl c
    · subst c; exact Or.inr ⟨rfl, by omega⟩
    · have : (b + 1) * P ≤ a * P := Nat.mul_le_mul_right _ c
      rw [Nat.add_mul, Nat.one_mul] at this
      omega
  · rintro (c | ⟨c, d⟩)
    · have : (a + 1) * P ≤ b * P := Nat.mul_le_mul_right _ c
      rw [Nat.add_mul, Nat.one_mul] at this
      omega
    · subst c; omega
theorem numI_lex {B B' : Nat} {d e d' e' : Int → Nat} : ∀ (m : Nat) (i : Int), (∀ s, i ≤ s → s < i + m → d s < B ∧ e s < B ∧ d' s < B' ∧ e' s < B' ∧ (d s < e s ↔ d' s < e' s) ∧ (d s = e s ↔ d' s = e' s)) → (numI B d m i < numI B e m i ↔ numI B' d' m i < numI B' e' m i)
  | 0, _, _ => by simp [numI]
  | m + 1, i, h => by
    have h1 := h i (by omega) (by omega)
    have hs := fun s (a : i + 1 ≤ s) (b : s < i + 1 + m) => h s (by omega) (by omega)
    have ih := numI_lex m (i + 1) hs
    rw [numI, numI, numI, numI, digit_lt (numI_lt m (i + 1) (fun s a b => (hs s a b).1)) (numI_lt m (i + 1) (fun s a b => (hs s a b).2.1)), digit_lt (numI_lt m (i + 1) (fun s a b => (hs s a b).2.2.1)) (numI_lt m (i + 1) (fun s a b => (hs s a b).2.2.2.1)), ih, h1.2.2.2.2.1, h1.2.2.2.2.2]
def dg (S : Wd) (r : Int → Int) (s : Int) : Nat := if r s = -1 then nQ S else (r s).toNat
def idx (S : Wd) (r : Int → Int) : Nat := numI (nQ S + 1) (dg S r) (nS S) 0
theorem dg_lt {S : Wd} (hO : OK S) {r : Int → Int} (hr : inR S r) {s : Int} (s0 : 0 ≤ s) (s1 : s < S 5 0) : dg S r s < nQ S + 1 := by
  have := hr s s0 s1
  have := nQ_i hO
  unfold dg
  split <;> omega
theorem idx_lt {S : Wd} (hO : OK S) {r : Int → Int} (hr : inR S r) : idx S r < (nQ S + 1) ^ nS S := by
  have hn := nS_i hO
  exact numI_lt _ _ (fun s a b => dg_lt hO hr a (by omega))
theorem rk_idx {S : Wd} (hO : OK S) {r : Int → Int} (hr : inR S r) {s : Int} (s0 : 0 ≤ s) (s1 : s < S 5 0) : rk S (idx S r) s = r s := by
  have hn := nS_i hO
  have hq := nQ_i hO
  have hb := hr s s0 s1
  have h := numI_digit (B := nQ S + 1) (by omega) (d := dg S r) (nS S) 0 s.toNat (by omega) (fun s a b => dg_lt hO hr a (by omega))
  unfold rk idx
  rw [h, Int.toNat_of_nonneg s0, Int.zero_add]
  unfold decQ dg
  by_cases c : r s = -1
  · rw [if_pos c, if_pos rfl, c]
  · rw [if_neg c, if_neg (by omega)]
    omega
theorem idx_rk {S : Wd} (hO : OK S) {k : Nat} (hk : k < (nQ S + 1) ^ nS S) : idx S (rk S k) = k := by
  have hn := nS_i hO
  have h := numI_of (B := nQ S + 1) (k := k) (nS S) 0 (nS S) (by omega) (by omega)
  rw [Nat.mod_eq_of_lt hk] at h
  unfold idx
  rw [← h]
  rw [h]
  rw [← h]
  refine numI_congr (nS S) 0 (fun s a b => ?_)
  rw [h]
  have hm := Nat.mod_lt (k / (nQ S + 1) ^ (nS S - 1 - s.toNat)) (show 0 < nQ S + 1 by omega)
  unfold dg rk decQ
  generalize k / (nQ S + 1) ^ (nS S - 1 - s.toNat) % (nQ S + 1) = d at hm ⊢
  by_cases c : d = nQ S
  · rw [if_pos c, if_pos rfl, c]
  · rw [if_neg c, if_neg (by omega)]
    omega
theorem pow_split (m c : Nat) : (2 : Int) ^ (3 * (m + c)) = 8 ^ m * 8 ^ c := by
  rw [Int.pow_mul, Int.pow_add]
  rfl
theorem chn_num {r : Int → Int} (hc : ∀ s : Int, 0 ≤ chz (r s) ∨ True) : ∀ (m : Nat) (i : Int) (N : Nat), N ≤ 7 → 0 ≤ i → i + m = N → (∀ s, i ≤ s → s < i + m → 0 ≤ chz (r s)) → sumI (fun s => chz (r s) * pw s) m i = ((numI 8 (fun s => (chz (r s)).toNat) m i : Nat) : Int) * 8 ^ (7 - N)
  | 0, i, N, _, _, _, _ => by simp [sumI, numI]
  | m + 1, i, N, hN, h0, h1, hb => by
    have hi := hb i (by omega) (by omega)
    rw [sumI_s, chn_num hc m (i + 1) N hN (by omega) (by omega) (fun s a b => hb s (by omega) (by omega)), numI]
    unfold pw
    rw [show (3 * (6 - i)).toNat = 3 * (m + (7 - N)) by omega, pow_split, Int.natCast_add, Int.natCast_mul, Int.toNat_of_nonneg hi, Int.natCast_pow, Int.add_mul, Int.mul_assoc]
    rfl
theorem chn_idx {S : Wd} (hO : OK S) {a b : Int → Int} (ha : inR S a) (hb : inR S b) : idx S a < idx S b ↔ chn a (nS S) < chn b (nS S) := by
  have hn := nS_i hO
  have hn7 := nS_le hO
  have hQ := hO.2.1
  have hq := nQ_i hO
  have ca := fun s (x : (0 : Int) ≤ s) (y : s < 0 + (nS S : Int)) => (chz_bd (ha s x (by omega)).1 (by have := (ha s x (by omega)).2; omega))
  have cb := fun s (x : (0 : Int) ≤ s) (y : s < 0 + (nS S : Int)) => (chz_bd (hb s x (by omega)).1 (by have := (hb s x (by omega)).2; omega))
  unfold chn idx
  rw [chn_num (fun _ => Or.inr trivial) (nS S) 0 (nS S) hn7 (by omega) (by omega) (fun s x y => (ca s x y).1), chn_num (fun _ => Or.inr trivial) (nS S) 0 (nS S) hn7 (by omega) (by omega) (fun s x y => (cb s x y).1)]
  rw [numI_lex (B := nQ S + 1) (B' := 8) (d := dg S a) (e := dg S b) (d' := fun s => (chz (a s)).toNat) (e' := fun s => (chz (b s)).toNat) (nS S) 0 (fun s x y => by
    have h1 := ha s x (by omega)
    have h2 := hb s x (by omega)
    have c1 := ca s x y
    have c2 := cb s x y
    have d1 := dg_lt hO ha x (show s < S 5 0 by omega)
    have d2 := dg_lt hO hb x (show s < S 5 0 by omega)
    refine ⟨d1, d2, by omega, by omega, ?_, ?_⟩
    · unfold dg chz
      split <;> split <;> omega
    · unfold dg chz
      split <;> split <;> omega)]
  have hp : (0 : Int) < 8 ^ (7 - nS S) := Int.pow_pos (by decide)
  generalize numI 8 (fun s => (chz (a s)).toNat) (nS S) 0 = X
  generalize numI 8 (fun s => (chz (b s)).toNat) (nS S) 0 = Y
  constructor
  · intro h
    exact Int.mul_lt_mul_of_pos_right (by omega) hp
  · intro h
    have := Int.lt_of_mul_lt_mul_right h (Int.le_of_lt hp)
    omega
/-! rows that agree on the ships are alike -/
theorem costR_cg {S : Wd} (hO : OK S) {near : Bool} {a b : Int → Int} (h : ∀ s : Int, 0 ≤ s → s < S 5 0 → a s = b s) : costR S near a = costR S near b := by
  have hn := nS_i hO
  exact sumI_congr (nS S) 0 (fun k x y => by rw [h k x (by omega)])
theorem roomGo_cg {S : Wd} {a b : Int → Int} {q : Int} : ∀ (m : Nat) (s c d : Int), (∀ t, s ≤ t → t < s + m → a t = b t) → roomGo S a q m s c d = roomGo S b q m s c d
  | 0, _, _, _, _ => rfl
  | m + 1, s, c, d, h => by
    rw [roomGo, roomGo, h s (by omega) (by omega), roomGo_cg m (s + 1) _ _ (fun t x y => h t (by omega) (by omega)), roomGo_cg m (s + 1) _ _ (fun t x y => h t (by omega) (by omega))]
theorem goodR_cg {S : Wd} (hO : OK S) {a b : Int → Int} (h : ∀ s : Int, 0 ≤ s → s < S 5 0 → a s = b s) (hg : goodR S a) : goodR S b := by
  have hn := nS_i hO
  obtain ⟨h1, h2, h3⟩ := hg
  refine ⟨fun s s0 s1 hs => ?_, fun s t t0 ts s1 hs ht => ?_, fun q q0 q1 => ?_⟩
  · rw [← h s s0 s1] at hs ⊢; exact h1 s s0 s1 hs
  · rw [← h s (by omega) s1] at hs ht; rw [← h t t0 (by omega)] at ht; exact h2 s t t0 ts s1 hs ht
  · have := h3 q q0 q1
    unfold roomOf at this ⊢
    rw [← roomGo_cg (nS S) 0 0 _ (fun t x y => h t x (by omega))]
    exact this
theorem idl_kN {S : Wd} (r : Int → Int) : idlN r (nS S) = (nS S : Int) - kN S r := by
  have h : sumI (fun s => bz (decide (r s = -1)) + bz (bthR r s)) (nS S) 0 = (nS S : Int) := by
    rw [sumI_congr (g := fun _ => 1) (nS S) 0 (fun k _ _ => by
      unfold bthR
      by_cases c : r k = -1
      · rw [decide_eq_true c, decide_eq_false (by simpa using c)]; rfl
      · rw [decide_eq_false c, decide_eq_true c]; rfl)]
    have := sumI_bd (f := fun _ => 1) (lo := 1) (hi := 1) (nS S) 0 (fun _ _ _ => by omega)
    omega
  rw [sumI_add] at h
  unfold idlN kN cnt
  omega
theorem mov_kM {S : Wd} (near : Bool) (r : Int → Int) : movN S near r (nS S) = kM S near r := by
  unfold movN kM
  cases near
  · exact sumI_zero _ _ (fun k _ _ => rfl)
  · rfl
theorem lost_show {S : Wd} (r : Int → Int) : lostS S r (nS S) = 1000 * (nS S : Int) - showAll S r := by
  have h : sumI (fun s => (1000 - show1 S s (r s)) + show1 S s (r s)) (nS S) 0 = 1000 * (nS S : Int) := by
    rw [sumI_congr (g := fun _ => 1000) (nS S) 0 (fun k _ _ => by omega)]
    have := sumI_bd (f := fun _ => 1000) (lo := 1000) (hi := 1000) (nS S) 0 (fun _ _ _ => by omega)
    omega
  rw [sumI_add] at h
  unfold lostS showAll
  omega
theorem same_row {S : Wd} (hO : OK S) {near : Bool} {r : Int → Int} (h1 : inR S r) (h2 : fitAll S near r) (h3 : ∀ r', inR S r' → fitAll S near r' → costR S near r ≤ costR S near r') {j : Nat} (j1 : j < (nQ S + 1) ^ nS S) (j2 : goodR S (rk S j)) (j3 : ∀ i, i < (nQ S + 1) ^ nS S → goodR S (rk S i) → Kle S near j i) : ∀ s : Int, 0 ≤ s → s < S 5 0 → rk S j s = r s := by
  have hn := nS_i hO
  have hn7 := nS_le hO
  have hj := rk_in S hO j
  have hi := rk_in S hO (idx S r)
  have eqr := fun s s0 s1 => rk_idx hO h1 (s := s) s0 s1
  have hle := h3 (rk S j) hj ((fitAll_iff hO hj).mpr j2)
  have hgi : goodR S (rk S (idx S r)) := goodR_cg hO (fun s a b => (eqr s a b).symm) ((fitAll_iff hO h1).mp h2)
  have hk := j3 (idx S r) (idx_lt hO h1) hgi
  rw [← costR_cg hO eqr] at hle
  rw [costR_eq, costR_eq, idl_kN, idl_kN, mov_kM, mov_kM, lost_show, lost_show] at hle
  have b1 := chn_bd hO hj
  have b2 := chn_bd hO hi
  have b3 := show_bd hO hj
  have b4 := show_bd hO hi
  have b5 := lost_bd hO hj
  have b6 := lost_bd hO hi
  rw [lost_show] at b5 b6
  have b7 := kM_bd hO near (rk S j)
  have b8 := kM_bd hO near (rk S (idx S r))
  have b9 := kN_bd hO (rk S j)
  have b10 := kN_bd hO (rk S (idx S r))
  have hlex := chn_idx hO hj hi
  rw [idx_rk hO j1, idx_rk hO (idx_lt hO h1)] at hlex
  unfold Kle at hk
  have hji : j = idx S r := by
    rcases Nat.lt_trichotomy j (idx S r) with c | c | c
    · have := hlex.mp c
      omega
    · exact c
    · omega
  intro s s0 s1
  rw [hji]
  exact eqr s s0 s1

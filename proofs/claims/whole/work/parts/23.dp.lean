/-! Offering a quay to every set of ships; the least sum over all good berths. -/
def noSub (S : Nat) : Nat → Nat → Bool
  | 0, _ => true
  | k + 1, lo => !((lo &&& S) == lo) && noSub S k (lo + 1)
def chkSub (S p : Nat) : Bool := !((p &&& S) == p) || noSub S (p - 1 - ((p - 1) &&& S)) (((p - 1) &&& S) + 1)
theorem chkSub_all : ∀ S p : Fin 128, chkSub S.val p.val = true := by decide +kernel
theorem noSub_at {S : Nat} : ∀ (k lo q : Nat), noSub S k lo = true → lo ≤ q → q < lo + k → ¬ (q &&& S = q)
  | 0, lo, q, _, a, b => by omega
  | k + 1, lo, q, h, a, b => by
    rw [noSub, Bool.and_eq_true, Bool.not_eq_true'] at h
    by_cases e : q = lo
    · subst e
      intro hq
      rw [hq] at h
      simp at h
    · exact noSub_at k (lo + 1) q h.2 (by omega) (by omega)
theorem sub_next {S p q : Nat} (hS : S < 128) (hp : p < 128) (h1 : p &&& S = p) (h2 : q &&& S = q) (h3 : q < p) : q ≤ (p - 1) &&& S := by
  have h := chkSub_all ⟨S, hS⟩ ⟨p, hp⟩
  unfold chkSub at h
  rw [h1] at h
  simp only [beq_self_eq_true, Bool.not_true, Bool.false_or] at h
  apply Classical.byContradiction
  intro hn
  exact noSub_at _ _ q h (by omega) (by have : (p - 1) &&& S ≤ p - 1 := Nat.and_le_left; omega) h2
theorem sub_add : ∀ A P : Fin 128, P.val &&& A.val = P.val → (A.val ^^^ P.val) + P.val = A.val := by decide +kernel
theorem sub_xor {A P : Nat} (hA : A < 128) (h : P &&& A = P) : (A ^^^ P) + P = A := by
  have hP : P ≤ A := by rw [← h]; exact Nat.and_le_right
  exact sub_add ⟨A, hA⟩ ⟨P, by omega⟩ h
theorem sub_bit {A P : Nat} (h : P &&& A = P) (t : Nat) : P.testBit t = true → A.testBit t = true := by
  intro ht
  rw [← h, Nat.testBit_and, Bool.and_eq_true] at ht
  exact ht.2
theorem xor_bit {A P : Nat} (h : P &&& A = P) (t : Nat) : (A ^^^ P).testBit t = (A.testBit t && !P.testBit t) := by
  rw [Nat.testBit_xor]
  have := sub_bit h t
  cases hA : A.testBit t <;> cases hP : P.testBit t <;> simp_all
/-- v is the least that the set A can get out of the old sums O and the sums T of sets at the new quay -/
def IsMin (T O : Nat → Int) (A : Nat) (v : Int) : Prop := v ≤ O A ∧ (∀ P, 0 < P → P &&& A = P → T P ≠ -1 → v ≤ T P + O (A ^^^ P)) ∧ (v = O A ∨ ∃ P, 0 < P ∧ P &&& A = P ∧ T P ≠ -1 ∧ v = T P + O (A ^^^ P))
theorem p_offer_22 {A M : Nat} (hA7 : A < M) (hM : M ≤ 128) {T O : Nat → Int} (hT : ∀ P, P < M → -1 ≤ T P ∧ T P ≤ 1200000000000) (hO : ∀ P, P < M → 0 ≤ O P ∧ O P ≤ 1200000000000) (k : Int → Wd → Option (Int × Wd)) : ∀ (m n P : Nat) (L : Int) (w : Wd), P ≤ m → m < n → P &&& A = P → (∀ P, P < M → w 23 P = T P) → (∀ P, P ≤ A → w 22 P = O P) → 0 ≤ L → L ≤ 2400000000000 → ∃ L', x_offerQuay_22 (A : Int) k n L (P : Int) w = k L' w ∧ 0 ≤ L' ∧ L' ≤ L ∧ (∀ P', 0 < P' → P' ≤ P → P' &&& A = P' → T P' ≠ -1 → L' ≤ T P' + O (A ^^^ P')) ∧ (L' = L ∨ ∃ P', 0 < P' ∧ P' &&& A = P' ∧ T P' ≠ -1 ∧ L' = T P' + O (A ^^^ P'))
  | m, n, 0, L, w, h1, h2, h3, h4, h5, h6, h7 => by
    obtain ⟨n, rfl⟩ : ∃ n', n = n' + 1 := ⟨n - 1, by omega⟩
    refine ⟨L, ?_, h6, Int.le_refl _, fun P' a b => by omega, Or.inl rfl⟩
    rw [x_offerQuay_22, wr_id (by omega) (by omega), if_pos (by omega)]
  | 0, n, P + 1, L, w, h1, h2, h3, h4, h5, h6, h7 => by omega
  | m + 1, n, P + 1, L, w, h1, h2, h3, h4, h5, h6, h7 => by
    obtain ⟨n, rfl⟩ : ∃ n', n = n' + 1 := ⟨n - 1, by omega⟩
    have hPA : P + 1 ≤ A := by rw [← h3]; exact Nat.and_le_right
    have hx := sub_xor (show A < 128 by omega) h3
    have hN : P &&& A ≤ P := Nat.and_le_left
    have hN2 : (P &&& A) &&& A = P &&& A := by rw [Nat.and_assoc, Nat.and_self]
    have t1 := hT (P + 1) (by omega)
    have o1 := hO (A ^^^ (P + 1)) (by omega)
    have next : ∀ P', P' < P + 1 → P' &&& A = P' → P' ≤ P &&& A := fun P' a b => by
      have := sub_next (show A < 128 by omega) (show P + 1 < 128 by omega) h3 b a
      rw [Nat.add_sub_cancel] at this
      exact this
    have e0 : band (((P + 1 : Nat) : Int) - 1) (A : Int) = ((P &&& A : Nat) : Int) := by
      rw [show (((P + 1 : Nat) : Int) - 1) = (P : Int) by omega, band_n (by omega) (by omega)]
    have e1 : ∀ L : Int, x_offerQuay_22 (A : Int) k n L (band (((P + 1 : Nat) : Int) - 1) (A : Int)) w = x_offerQuay_22 (A : Int) k n L ((P &&& A : Nat) : Int) w := fun L => by rw [e0]
    have f1 : (0 : Int) ≤ ((P + 1 : Nat) : Int) ∧ ((P + 1 : Nat) : Int) < 128 := by omega
    have f2 : (0 : Int) ≤ ((A ^^^ (P + 1) : Nat) : Int) ∧ ((A ^^^ (P + 1) : Nat) : Int) < 128 := by omega
    have step : x_offerQuay_22 (A : Int) k (n + 1) L ((P + 1 : Nat) : Int) w = x_offerQuay_22 (A : Int) k n (if T (P + 1) = -1 then L else if T (P + 1) + O (A ^^^ (P + 1)) < L then T (P + 1) + O (A ^^^ (P + 1)) else L) ((P &&& A : Nat) : Int) w := by
      rw [x_offerQuay_22, bxor_n (by omega) (by omega), wr_id (x := ((P + 1 : Nat) : Int)) (by omega) (by omega), if_neg (by omega)]
      simp only [f1, f2, and_self, if_true, Int.toNat_natCast, h4 (P + 1) (by omega), h5 (A ^^^ (P + 1)) (by omega), bcmp_eq0, e1]
      rw [wl_id (x := T (P + 1)) (by omega) (by omega), wl_id (x := -1) (by omega) (by omega)]
      unfold lmin
      rw [wl_id (x := T (P + 1) + O (A ^^^ (P + 1))) (by omega) (by omega), wl_id (x := L) (by omega) (by omega)]
      split <;> rfl
    by_cases c1 : T (P + 1) = -1
    · rw [if_pos c1] at step
      obtain ⟨L', g1, g2, g3, g4, g5⟩ := p_offer_22 hA7 hM hT hO k m n (P &&& A) L w (by omega) (by omega) hN2 h4 h5 h6 h7
      refine ⟨L', by rw [step, g1], g2, g3, fun P' a b c d => ?_, g5⟩
      by_cases e : P' = P + 1
      · subst e; exact absurd c1 d
      · exact g4 P' a (next P' (by omega) c) c d
    · rw [if_neg c1] at step
      by_cases c2 : T (P + 1) + O (A ^^^ (P + 1)) < L
      · rw [if_pos c2] at step
        obtain ⟨L', g1, g2, g3, g4, g5⟩ := p_offer_22 hA7 hM hT hO k m n (P &&& A) (T (P + 1) + O (A ^^^ (P + 1))) w (by omega) (by omega) hN2 h4 h5 (by omega) (by omega)
        refine ⟨L', by rw [step, g1], g2, by omega, fun P' a b c d => ?_, ?_⟩
        · by_cases e : P' = P + 1
          · subst e; exact g3
          · exact g4 P' a (next P' (by omega) c) c d
        · rcases g5 with g | g
          · exact Or.inr ⟨P + 1, by omega, h3, c1, g⟩
          · exact Or.inr g
      · rw [if_neg c2] at step
        obtain ⟨L', g1, g2, g3, g4, g5⟩ := p_offer_22 hA7 hM hT hO k m n (P &&& A) L w (by omega) (by omega) hN2 h4 h5 h6 h7
        refine ⟨L', by rw [step, g1], g2, g3, fun P' a b c d => ?_, g5⟩
        by_cases e : P' = P + 1
        · subst e; omega
        · exact g4 P' a (next P' (by omega) c) c d
theorem p_offer_8 {M : Nat} (hM : M ≤ 128) {T O : Nat → Int} (hT : ∀ P, P < M → -1 ≤ T P ∧ T P ≤ 1200000000000) (hO : ∀ P, P < M → 0 ≤ O P ∧ O P ≤ 1200000000000) : ∀ (m n : Nat) (w : Wd), m < M → m < n → (∀ P, P < M → w 23 P = T P) → (∀ P, P ≤ m → w 22 P = O P) → ∃ w', x_offerQuay_8 n (m : Int) w = some (0, w') ∧ (∀ c, c ≠ 22 → w' c = w c) ∧ w' 22 0 = w 22 0 ∧ (∀ A, 0 < A → A ≤ m → 0 ≤ w' 22 A ∧ IsMin T O A (w' 22 A)) ∧ (∀ A, m < A → w' 22 A = w 22 A)
  | 0, n, w, h1, h2, h3, h4 => by
    obtain ⟨n, rfl⟩ : ∃ n', n = n' + 1 := ⟨n - 1, by omega⟩
    refine ⟨w, ?_, fun c _ => rfl, rfl, fun A a b => by omega, fun A _ => rfl⟩
    rw [x_offerQuay_8, wr_id (by omega) (by omega), if_pos (by omega)]
  | m + 1, n, w, h1, h2, h3, h4 => by
    obtain ⟨n, rfl⟩ : ∃ n', n = n' + 1 := ⟨n - 1, by omega⟩
    have o1 := hO (m + 1) (by omega)
    obtain ⟨L', g1, g2, g3, g4, g5⟩ := p_offer_22 (A := m + 1) h1 hM hT hO (fun (e74_2 : Int) (w74 : Wd) => if 0 ≤ ((m + 1 : Nat) : Int) ∧ ((m + 1 : Nat) : Int) < 128 then x_offerQuay_8 n (((m + 1 : Nat) : Int) + (-1)) (wset w74 22 ((m + 1 : Nat) : Int).toNat e74_2) else none) (m + 1) FU (m + 1) (O (m + 1)) w (by omega) (by have := FU_big; omega) (Nat.and_self _) h3 h4 o1.1 (by omega)
    obtain ⟨w', f1, f2, f3, f4, f5⟩ := p_offer_8 hM hT hO m n (wset w 22 (m + 1) L') (by omega) (by omega) (fun P hP => by rw [wset_far 23 (by decide)]; exact h3 P hP) (fun P hP => by rw [wset_at, if_neg (by omega)]; exact h4 P (by omega))
    refine ⟨w', ?_, fun c hc => by rw [f2 c hc, wset_far c hc], by rw [f3, wset_at, if_neg (by omega)], fun A a b => ?_, fun A hA => by rw [f5 A (by omega), wset_at, if_neg (by omega)]⟩
    · rw [x_offerQuay_8, wr_id (by omega) (by omega), if_neg (by omega), if_pos (by omega)]
      have e22 : w 22 ((m + 1 : Nat) : Int).toNat = O (m + 1) := h4 (m + 1) (by omega)
      rw [e22, g1]
      rw [if_pos (by omega), show (((m + 1 : Nat) : Int) + (-1)) = (m : Int) by omega]
      exact f1
    · by_cases e : A = m + 1
      · subst e
        have ew : w' 22 (m + 1) = L' := by rw [f5 (m + 1) (by omega), wset_at, if_pos rfl]
        rw [ew]
        refine ⟨g2, g3, fun P a b c => g4 P a ?_ b c, g5⟩
        rw [← b]; exact Nat.and_le_right
      · exact f4 A a (by omega)
theorem p_all {w : Wd} {N : Nat} (h : w 5 0 = (N : Int)) (hN : N ≤ 7) : fl_all w = some (((2 ^ N - 1 : Nat) : Int), w) := by
  have h2 : 2 ^ N ≤ 2 ^ 7 := Nat.pow_le_pow_right (by omega) hN
  have h3 := Nat.two_pow_pos N
  unfold fl_all
  rw [h, bshl_pow (by omega)]
  congr 3
  omega
/-! the meaning of the tables -/
theorem tog_val {al : Nat → Bool} {fo : Nat → Nat → Bool} {sp : Nat → Int} {lg : Int} {co : Int → Int} : ∀ (s P : Nat), P < 2 ^ s → mt (gW al fo sp lg (fun t => co t)) s P ≠ -1 → mt (gW al fo sp lg (fun t => co t)) s P = ssum co s P
  | 0, P, _, _ => rfl
  | s + 1, P, h, hn => by
    rw [Nat.pow_succ] at h
    rw [ssum_s]
    by_cases e : P < 2 ^ s
    · rw [mt_low e] at hn ⊢
      rw [tog_val s P e hn, Nat.testBit_lt_two_pow e]
      simp
    · obtain ⟨r, rfl⟩ : ∃ r, P = 2 ^ s + r := ⟨P - 2 ^ s, by omega⟩
      rw [mt_high (by omega)] at hn ⊢
      rw [Nat.testBit_two_pow_add_eq, Nat.testBit_lt_two_pow (show r < 2 ^ s by omega)]
      have hc : ssum co s (2 ^ s + r) = ssum co s r := ssum_cut (fun t ht => by rw [Nat.testBit_two_pow_add_gt ht])
      rw [hc]
      have ih := tog_val (al := al) (fo := fo) (sp := sp) (lg := lg) (co := co) s r (by omega)
      generalize mt (gW al fo sp lg (fun t => co t)) s r = X at hn ih ⊢
      unfold gW at hn ⊢
      split
      · rename_i hcond
        rw [ih hcond.2.1]
        simp
      · rename_i hcond
        rw [if_neg hcond] at hn
        exact absurd rfl hn
theorem ssum_split {f : Int → Int} {n A P : Nat} (h : P &&& A = P) : ssum f n A = ssum f n P + ssum f n (A ^^^ P) := by
  unfold ssum
  rw [← sumI_add]
  refine sumI_congr n 0 (fun k a b => ?_)
  rw [xor_bit h]
  have := sub_bit h k.toNat
  cases hA : A.testBit k.toNat <;> cases hP : P.testBit k.toNat <;> simp_all
theorem ssum_on {f g : Int → Int} {n A : Nat} (h : ∀ s : Int, 0 ≤ s → s < n → A.testBit s.toNat = true → f s = g s) : ssum f n A = ssum g n A := by
  unfold ssum
  refine sumI_congr n 0 (fun k a b => ?_)
  cases hA : A.testBit k.toNat
  · rfl
  · simp only [if_true]
    exact h k a (by omega) hA
/-- the set of those of A that lie at q -/
def atQ (n A : Nat) (r : Int → Int) (q : Int) : Nat := maskI (fun s => A.testBit s.toNat && decide (r s = q)) n 0
theorem atQ_bit (n A : Nat) (r : Int → Int) (q : Int) (t : Nat) : (atQ n A r q).testBit t = (decide (t < n) && (A.testBit t && decide (r t = q))) := by
  unfold atQ
  show (maskI _ n ((0 : Nat) : Int)).testBit t = _
  rw [maskI_bit]
  congr 1
  by_cases h : t < n
  · rw [decide_eq_true h, decide_eq_true (by omega)]
  · rw [decide_eq_false h, decide_eq_false (by omega)]
theorem atQ_sub (n A : Nat) (r : Int → Int) (q : Int) : atQ n A r q &&& A = atQ n A r q := by
  apply Nat.eq_of_testBit_eq
  intro t
  rw [Nat.testBit_and, atQ_bit]
  cases A.testBit t <;> simp
theorem atQ_lt (n A : Nat) (r : Int → Int) (q : Int) : atQ n A r q < 2 ^ n := by
  have := (maskI_lt (fun s => A.testBit s.toNat && decide (r s = q)) n 0).1
  rw [Nat.zero_add] at this
  exact this
theorem mask_eq {n A B : Nat} (hA : A < 2 ^ n) (hB : B < 2 ^ n) (h : ∀ t, t < n → A.testBit t = B.testBit t) : A = B := by
  apply Nat.eq_of_testBit_eq
  intro t
  by_cases e : t < n
  · exact h t e
  · rw [Nat.testBit_lt_two_pow (Nat.lt_of_lt_of_le hA (Nat.pow_le_pow_right (by omega) (by omega))), Nat.testBit_lt_two_pow (Nat.lt_of_lt_of_le hB (Nat.pow_le_pow_right (by omega) (by omega)))]
def scost (S : Wd) (near : Bool) (A : Nat) (r : Int → Int) : Int := ssum (fun s => bcost S near s (r s)) (nS S) A
def goodUp (S : Wd) (near : Bool) (j : Int) (A : Nat) (r : Int → Int) : Prop := ∀ q : Int, 0 ≤ q → q < j → tog S near q (atQ (nS S) A r q) ≠ -1
def inA (A : Nat) (n : Nat) (j : Int) (r : Int → Int) : Prop := ∀ s : Int, 0 ≤ s → s < n → A.testBit s.toNat = true → -1 ≤ r s ∧ r s < j
def DPok (S : Wd) (near : Bool) (j : Int) (D : Nat → Int) : Prop := ∀ A, A < 2 ^ nS S → (∀ r, inA A (nS S) j r → goodUp S near j A r → D A ≤ scost S near A r) ∧ ∃ r, inA A (nS S) j r ∧ goodUp S near j A r ∧ D A = scost S near A r
theorem DP_base {S : Wd} {near : Bool} {D : Nat → Int} (hD : ∀ A, A < 2 ^ nS S → D A = mt (gSum (fun t => bcost S near t (-1))) (nS S) A) : DPok S near 0 D := by
  intro A hA
  have key : ∀ r, inA A (nS S) 0 r → D A = scost S near A r := by
    intro r hr
    rw [hD A hA, mt_sum (fun s => bcost S near s (-1)) (nS S) A hA]
    unfold scost
    refine ssum_on (fun s a b c => ?_)
    have := hr s a b c
    rw [show r s = -1 by omega]
  refine ⟨fun r hr _ => by rw [key r hr]; exact Int.le_refl _, fun _ => -1, fun s _ _ _ => ⟨Int.le_refl _, (by decide : (-1 : Int) < 0)⟩, fun q a b => by omega, key _ (fun s _ _ _ => ⟨Int.le_refl _, (by decide : (-1 : Int) < 0)⟩)⟩
theorem tog_0 (S : Wd) (near : Bool) (q : Int) : tog S near q 0 = 0 := by
  unfold tog
  have : ∀ g n, mt g n 0 = 0 := by
    intro g n
    induction n with
    | zero => rfl
    | succ n ih => rw [mt_low (Nat.two_pow_pos n), ih]
  exact this _ _
theorem DP_step {S : Wd} (hOK : OK S) {near : Bool} {j : Int} (j0 : 0 ≤ j) {O D : Nat → Int} (hO : DPok S near j O) (h0 : D 0 = O 0) (hD : ∀ A, 0 < A → A < 2 ^ nS S → IsMin (tog S near j) O A (D A)) : DPok S near (j + 1) D := by
  have hn := nS_le hOK
  have h27 : 2 ^ nS S ≤ 2 ^ 7 := Nat.pow_le_pow_right (by omega) hn
  intro A hA
  refine ⟨fun r hr hg => ?_, ?_⟩
  · -- below
    have hsub := atQ_sub (nS S) A r j
    generalize hP : atQ (nS S) A r j = P at hsub
    have hPlt : P < 2 ^ nS S := by rw [← hP]; exact atQ_lt _ _ _ _
    have hbit : ∀ t, t < nS S → P.testBit t = (A.testBit t && decide (r t = j)) := fun t ht => by rw [← hP, atQ_bit, decide_eq_true ht, Bool.true_and]
    have hx := sub_xor (show A < 128 by omega) hsub
    have hin : inA (A ^^^ P) (nS S) j r := by
      intro s a b c
      rw [xor_bit hsub, Bool.and_eq_true, Bool.not_eq_true'] at c
      have h1 := hr s a b c.1
      have h2 := hbit s.toNat (by omega)
      rw [c.1, c.2, Int.toNat_of_nonneg a, Bool.true_and] at h2
      have h3 : r s ≠ j := by
        intro e
        rw [decide_eq_true e] at h2
        cases h2
      omega
    have hgood : goodUp S near j (A ^^^ P) r := by
      intro q a b
      have : atQ (nS S) (A ^^^ P) r q = atQ (nS S) A r q := mask_eq (atQ_lt _ _ _ _) (atQ_lt _ _ _ _) (fun t ht => by
        rw [atQ_bit, atQ_bit, xor_bit hsub, hbit t ht]
        by_cases e : r t = q
        · have : r t ≠ j := by omega
          rw [decide_eq_false this]
          simp
        · rw [decide_eq_false e]; simp)
      rw [this]
      exact hg q a (by omega)
    have hO1 := (hO (A ^^^ P) (by omega)).1 r hin hgood
    by_cases e : P = 0
    · have e2 : A ^^^ P = A := by rw [e, Nat.xor_zero]
      rw [e2] at hO1
      by_cases eA : A = 0
      · rw [eA, h0]; rw [eA] at hO1; exact hO1
      · exact Int.le_trans (hD A (by omega) hA).1 hO1
    · have hT := hg j j0 (by omega)
      rw [hP] at hT
      have hle := (hD A (by omega) hA).2.1 P (by omega) hsub hT
      have hTv : tog S near j P = ssum (fun s => bcost S near s j) (nS S) P := tog_val (co := fun s => bcost S near s j) (nS S) P hPlt hT
      have hPr : ssum (fun s => bcost S near s j) (nS S) P = ssum (fun s => bcost S near s (r s)) (nS S) P := ssum_on (fun s a b c => by
        have h2 := hbit s.toNat (by omega)
        rw [c, Int.toNat_of_nonneg a] at h2
        have h3 := h2.symm
        rw [Bool.and_eq_true, decide_eq_true_eq] at h3
        rw [h3.2])
      unfold scost at hO1 ⊢
      rw [ssum_split hsub, ← hPr, ← hTv]
      omega
  · -- attained
    by_cases eA : A = 0
    · obtain ⟨r, a, b, c⟩ := (hO 0 (Nat.two_pow_pos _)).2
      refine ⟨r, fun s _ _ z => ?_, fun q q0 q1 => ?_, by rw [eA, h0]; exact c⟩
      · rw [eA, Nat.zero_testBit] at z; cases z
      · have : atQ (nS S) A r q = 0 := mask_eq (atQ_lt _ _ _ _) (Nat.two_pow_pos _) (fun t _ => by rw [atQ_bit, eA]; simp)
        rw [this, tog_0]; decide
    · rcases (hD A (by omega) hA).2.2 with e | ⟨P, P0, hsub, hT, e⟩
      · obtain ⟨r, a, b, c⟩ := (hO A hA).2
        refine ⟨r, fun s s0 s1 z => by have := a s s0 s1 z; omega, fun q q0 q1 => ?_, by rw [e]; exact c⟩
        by_cases eq : q = j
        · have : atQ (nS S) A r q = 0 := mask_eq (atQ_lt _ _ _ _) (Nat.two_pow_pos _) (fun t ht => by
            rw [atQ_bit, Nat.zero_testBit]
            cases hb : A.testBit t
            · simp
            · have := a t (by omega) (by omega) hb
              rw [decide_eq_false (show ¬ r t = q by omega)]
              simp)
          rw [this, tog_0]; decide
        · exact b q q0 (by omega)
      · have hPA : P ≤ A := by rw [← hsub]; exact Nat.and_le_right
        have hx := sub_xor (show A < 128 by omega) hsub
        obtain ⟨r, a, b, c⟩ := (hO (A ^^^ P) (by omega)).2
        have hout : ∀ s : Int, 0 ≤ s → s < nS S → A.testBit s.toNat = true → P.testBit s.toNat = false → -1 ≤ r s ∧ r s < j := fun s s0 s1 z1 z2 => a s s0 s1 (by rw [xor_bit hsub, z1, z2]; rfl)
        refine ⟨fun s => if P.testBit s.toNat then j else r s, fun s s0 s1 z => ?_, fun q q0 q1 => ?_, ?_⟩
        · dsimp only
          cases hp : P.testBit s.toNat
          · have := hout s s0 s1 z hp
            rw [if_neg (by decide)]
            omega
          · rw [if_pos rfl]; omega
        · by_cases eq : q = j
          · have : atQ (nS S) A (fun s => if P.testBit s.toNat then j else r s) q = P := mask_eq (atQ_lt _ _ _ _) (by omega) (fun t ht => by
              rw [atQ_bit, decide_eq_true ht, Bool.true_and, Int.toNat_natCast]
              cases hp : P.testBit t
              · cases hb : A.testBit t
                · rfl
                · have := hout t (by omega) (by omega) hb hp
                  rw [if_neg (by decide), decide_eq_false (show ¬ r t = q by omega)]; rfl
              · rw [sub_bit hsub t hp, if_pos rfl, decide_eq_true eq.symm]; rfl)
            rw [this, eq]
            exact hT
          · have : atQ (nS S) A (fun s => if P.testBit s.toNat then j else r s) q = atQ (nS S) (A ^^^ P) r q := mask_eq (atQ_lt _ _ _ _) (atQ_lt _ _ _ _) (fun t ht => by
              rw [atQ_bit, atQ_bit, xor_bit hsub, Int.toNat_natCast]
              cases hp : P.testBit t
              · simp
              · rw [if_pos rfl, decide_eq_false (show ¬ j = q by omega)]; simp)
            rw [this]
            exact b q q0 (by omega)
        · have hTv : tog S near j P = ssum (fun s => bcost S near s j) (nS S) P := tog_val (co := fun s => bcost S near s j) (nS S) P (by omega) hT
          rw [e, c, hTv]
          unfold scost
          rw [ssum_split (A := A) hsub]
          congr 1
          · exact ssum_on (fun s _ _ z => by dsimp only; rw [if_pos z])
          · refine ssum_on (fun s _ _ z => ?_)
            dsimp only
            rw [xor_bit hsub, Bool.and_eq_true, Bool.not_eq_true'] at z
            rw [if_neg (by rw [z.2]; decide)]

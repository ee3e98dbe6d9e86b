/-! The reference's sums of waits. -/
def may1 (S : Wd) (T : Int → Int) (s h : Int) : Bool := can S s h && decide (T s = -1 ∨ T s = h)
def toldIn (S w : Wd) (T : Int → Int) : Prop := ∀ s : Int, 0 ≤ s → s < S 5 0 → w 39 s.toNat = T s ∧ -1 ≤ T s ∧ T s < 120
theorem q_mayCome {S w : Wd} (hO : OK S) (hM : RM S w) {T : Int → Int} (hT : toldIn S w T) {s h : Int} (s0 : 0 ≤ s) (s1 : s < S 5 0) (h0 : 0 ≤ h) (h1 : h < 120) : m_mayCome s h w = some (bz (may1 S T s h), w) := by
  have hN := hO.1
  have hQ := hO.2.1
  have hs := hO.2.2.2.2.2.1 s s0 (by omega)
  have hu := hO.2.2.2.1 h h0 h1
  obtain ⟨t1, t2, t3⟩ := hT s s0 s1
  have r33 := (hM.2.2.2.2.2.2.2.2 s s0 (by omega)).1
  have rs := hM.2.2.2.2.2.1 s s0 s1
  have ru := hM.2.2.2.2.1 h h0 h1
  unfold OKs at hs
  unfold RMs at rs
  have f1 : 0 ≤ s ∧ s < 7 := by omega
  have f2 : 0 ≤ h ∧ h < 120 := ⟨h0, h1⟩
  have f3 : 0 ≤ 7 * s + 5 ∧ 7 * s + 5 < 49 := by omega
  have f4 : 0 ≤ 7 * s + 4 ∧ 7 * s + 4 < 49 := by omega
  unfold m_mayCome
  rw [r33, t1, ru, rs.2.2.2.2.1, rs.2.2.2.2.2.1]
  simp only [f1, f2, f3, f4, and_self, if_true]
  rw [wr_id (x := S 14 s.toNat) (by omega) (by omega), wr_id (x := -1) (by omega) (by omega), wr_id (x := T s) (by omega) (by omega), wr_id (x := h) (by omega) (by omega), wr_id (x := S 11 s.toNat) (by omega) (by omega), wr_id (x := S 3 h.toNat) (by omega) (by omega), wr_id (x := S 10 s.toNat) (by omega) (by omega)]
  by_cases c : S 14 s.toNat = -1
  · have eb : bth S s = false := by simp [bth, c]
    rw [if_pos c]
    unfold may1 can
    rw [eb]; rfl
  · have eb : bth S s = true := by simp [bth, c]
    rw [if_neg c, q_isAbove hO hM (by omega) hs.2.2.2.2.2.2.2.2.1.2]
    simp only [Option.bind_some]
    rw [q_comes hO hM s0 s1 h0 h1]
    simp only [Option.bind_some, wr_bz, bz_eq0]
    have core : (if h < S 11 s.toNat then some (0, w) else if S 3 h.toNat < S 10 s.toNat then some (0, w) else if wayIn S s h (above S (S 14 s.toNat)) = false then some (0, w) else some (1, w)) = some (bz (can S s h), w) := by
      unfold can
      rw [eb]
      by_cases d1 : h < S 11 s.toNat
      · rw [if_pos d1, decide_eq_false (by omega)]; rfl
      · rw [if_neg d1, decide_eq_true (show S 11 s.toNat ≤ h by omega)]
        by_cases d2 : S 3 h.toNat < S 10 s.toNat
        · rw [if_pos d2, decide_eq_false (by omega)]; rfl
        · rw [if_neg d2, decide_eq_true (show S 10 s.toNat ≤ S 3 h.toNat by omega)]
          cases wayIn S s h (above S (S 14 s.toNat))
          · rfl
          · rfl
    rw [core]
    unfold may1
    by_cases d1 : T s = -1
    · rw [if_pos d1, decide_eq_true (Or.inl d1), Bool.and_true]
    · rw [if_neg d1]
      by_cases d2 : T s = h
      · rw [if_pos d2, decide_eq_true (Or.inr d2), Bool.and_true]
      · rw [if_neg d2, decide_eq_false (by omega), Bool.and_false]; rfl
def wt (S : Wd) (s h : Int) : Int := h - S 11 s.toNat
def IsMinT (S : Wd) (T : Int → Int) (h : Int) (R1 : Nat → Int) (A s : Nat) (u v : Int) : Prop := v ≤ u ∧ (∀ t : Nat, s ≤ t → t < nS S → A.testBit t = true → may1 S T t h = true → v ≤ wt S t h + R1 (A ^^^ 2 ^ t)) ∧ (v = u ∨ ∃ t : Nat, s ≤ t ∧ t < nS S ∧ A.testBit t = true ∧ may1 S T t h = true ∧ v = wt S t h + R1 (A ^^^ 2 ^ t))
theorem may_arr {S : Wd} {T : Int → Int} {s h : Int} (h1 : may1 S T s h = true) : can S s h = true := by
  unfold may1 at h1
  rw [Bool.and_eq_true] at h1
  exact h1.1
theorem bit_shr {A s : Nat} (hA : A < 128) (hs : s < 7) : wr (band (bshr (A : Int) (s : Int)) 1) = 0 ↔ A.testBit s = false := by
  rw [bshr_n (by omega) (by omega), show (1 : Int) = ((1 : Nat) : Int) from rfl]
  have h1 : A / 2 ^ s ≤ A := Nat.div_le_self _ _
  rw [wr_band (by omega) (by omega), band_n (by omega) (by omega), Nat.and_one_is_mod]
  rw [Nat.testBit_eq_decide_div_mod_eq, decide_eq_false_iff_not]
  have := Nat.mod_lt (A / 2 ^ s) (show 0 < 2 by omega)
  omega
theorem q_sum_109 {S w : Wd} (hO : OK S) (hM : RM S w) {T : Int → Int} (hT : toldIn S w T) {h X : Int} {M A : Nat} {x2 : Int} (h0 : 0 ≤ h) (h1 : h < 120) (hMN : M = 2 ^ nS S) (hA : A < M) (hX : h * (M : Int) = X) (hX0 : 0 ≤ X) (hX1 : X + 2 * M ≤ 15488) {R1 : Nat → Int} (hR : ∀ P, P < M → w 38 (X + M + (P : Int)).toNat = R1 P ∧ 0 ≤ R1 P ∧ R1 P ≤ 268435456) (k : Int → Wd → Option (Int × Wd)) : ∀ (m n s : Nat) (u : Int), (s : Int) + m = S 5 0 → m < n → 0 ≤ u → u ≤ 268435456 → ∃ v, m_sumOf_109 (M : Int) x2 h (A : Int) k n u (s : Int) w = k v w ∧ 0 ≤ v ∧ v ≤ 268435456 ∧ IsMinT S T h R1 A s u v
  | 0, n, s, u, g1, g2, g3, g4 => by
    obtain ⟨n, rfl⟩ : ∃ n', n = n' + 1 := ⟨n - 1, by omega⟩
    have hN := hO.1
    have hn := nS_i hO
    refine ⟨u, ?_, g3, g4, Int.le_refl _, fun t a b => by omega, Or.inl rfl⟩
    rw [m_sumOf_109, hM.1, wr_id (by omega) (by omega), wr_id (by omega) (by omega), if_pos (by omega)]
  | m + 1, n, s, u, g1, g2, g3, g4 => by
    obtain ⟨n, rfl⟩ : ∃ n', n = n' + 1 := ⟨n - 1, by omega⟩
    have hN := hO.1
    have hn := nS_i hO
    have hn7 := nS_le hO
    have h27 : 2 ^ nS S ≤ 2 ^ 7 := Nat.pow_le_pow_right (by omega) hn7
    have hp7 : 2 ^ s < 2 ^ 7 := Nat.pow_lt_pow_right (by omega) (by omega)
    have es : ((s : Int) + 1) = ((s + 1 : Nat) : Int) := by omega
    have ih := q_sum_109 hO hM hT (x2 := x2) h0 h1 hMN hA hX hX0 hX1 hR k m n (s + 1)
    have skip : (A.testBit s = true → may1 S T s h = true → u ≤ wt S s h + R1 (A ^^^ 2 ^ s)) → ∃ v, m_sumOf_109 (M : Int) x2 h (A : Int) k n u ((s : Int) + 1) w = k v w ∧ 0 ≤ v ∧ v ≤ 268435456 ∧ IsMinT S T h R1 A s u v := by
      intro hk
      obtain ⟨v, b1, b2, b3, b4, b5, b6⟩ := ih u (by omega) (by omega) g3 g4
      refine ⟨v, by rw [es]; exact b1, b2, b3, b4, fun t a b c d => ?_, ?_⟩
      · by_cases et : t = s
        · subst et
          have := hk c d
          omega
        · exact b5 t (by omega) b c d
      · rcases b6 with b6 | ⟨t, c1, c2⟩
        · exact Or.inl b6
        · exact Or.inr ⟨t, by omega, c2⟩
    have rs := (hM.2.2.2.2.2.1 (s : Int) (by omega) (by omega)).2.2.2.2.2.1
    have ha := (hO.2.2.2.2.2.1 (s : Int) (by omega) (by omega)).2.2.2.2.2.1
    rw [m_sumOf_109, hM.1, wr_id (x := S 5 0) (by omega) (by omega), wr_id (x := (s : Int)) (by omega) (by omega), if_neg (by omega), q_mayCome hO hM hT (by omega) (by omega) h0 h1]
    simp only [bit_shr (show A < 128 by omega) (show s < 7 by omega), Option.bind_some, wr_bz, bz_eq0]
    cases hb : A.testBit s
    · rw [if_pos rfl]
      exact skip (fun z => by rw [hb] at z; cases z)
    · rw [if_neg (by decide)]
      cases hm : may1 S T s h
      · rw [if_pos rfl]
        exact skip (fun _ z => by rw [hm] at z; cases z)
      · rw [if_neg (by decide)]
        have hsub := pow_sub hb
        have hx := sub_xor (show A < 128 by omega) hsub
        have hpos := Nat.two_pow_pos s
        have harr := (can_arr (may_arr hm)).2
        obtain ⟨r1, r2, r3⟩ := hR (A ^^^ 2 ^ s) (by omega)
        have e1 : (h + 1) * (M : Int) = X + M := by rw [Int.add_mul, hX, Int.one_mul]
        rw [bshl_pow (by omega), bxor_n (by omega) (by omega), e1, r1, rs]
        have f1 : 0 ≤ 7 * (s : Int) + 5 ∧ 7 * (s : Int) + 5 < 49 := by omega
        have f2 : 0 ≤ X + (M : Int) + ((A ^^^ 2 ^ s : Nat) : Int) ∧ X + (M : Int) + ((A ^^^ 2 ^ s : Nat) : Int) < 15488 := by omega
        simp only [f1, f2, and_self, if_true]
        have ew : wt S s h = h - S 11 (s : Int).toNat := rfl
        rw [wr_id (x := u) (by omega) (by omega), wr_id (x := h - S 11 (s : Int).toNat + R1 (A ^^^ 2 ^ s)) (by omega) (by omega)]
        by_cases d : u ≤ h - S 11 (s : Int).toNat + R1 (A ^^^ 2 ^ s)
        · rw [if_pos d]
          exact skip (fun _ _ => by rw [ew]; exact d)
        · rw [if_neg d]
          obtain ⟨v, b1, b2, b3, b4, b5, b6⟩ := ih (h - S 11 (s : Int).toNat + R1 (A ^^^ 2 ^ s)) (by omega) (by omega) (by omega) (by omega)
          refine ⟨v, by rw [es]; exact b1, b2, b3, by omega, fun t a b c d2 => ?_, ?_⟩
          · by_cases et : t = s
            · subst et; rw [ew]; exact b4
            · exact b5 t (by omega) b c d2
          · rcases b6 with b6 | ⟨t, c1, c2⟩
            · exact Or.inr ⟨s, by omega, by omega, hb, hm, by rw [ew]; exact b6⟩
            · exact Or.inr ⟨t, by omega, c2⟩
theorem q_sum_85 {S : Wd} (hO : OK S) {T : Int → Int} {h X : Int} {M : Nat} {x2 : Int} (h0 : 0 ≤ h) (h1 : h < 120) (hMN : M = 2 ^ nS S) (hX : h * (M : Int) = X) (hX0 : 0 ≤ X) (hX1 : X + 2 * M ≤ 15488) {R1 : Nat → Int} (hR1 : ∀ P, P < M → 0 ≤ R1 P ∧ R1 P ≤ 268435456) (k : Wd → Option (Int × Wd)) : ∀ (m n A : Nat) (w : Wd), A + m = M → m < n → RM S w → toldIn S w T → (∀ P, P < M → w 38 (X + M + (P : Int)).toNat = R1 P) → (∀ P, P < A → (0 ≤ w 38 (X + (P : Int)).toNat ∧ w 38 (X + (P : Int)).toNat ≤ 268435456) ∧ IsMinT S T h R1 P 0 (R1 P) (w 38 (X + (P : Int)).toNat)) → ∃ w', m_sumOf_85 (M : Int) x2 h k n (A : Int) w = k w' ∧ (∀ c, c ≠ 38 → w' c = w c) ∧ (∀ P, P < M → (0 ≤ w' 38 (X + (P : Int)).toNat ∧ w' 38 (X + (P : Int)).toNat ≤ 268435456) ∧ IsMinT S T h R1 P 0 (R1 P) (w' 38 (X + (P : Int)).toNat))
  | 0, n, A, w, g1, g2, g3, g4, g5, g6 => by
    obtain ⟨n, rfl⟩ : ∃ n', n = n' + 1 := ⟨n - 1, by omega⟩
    refine ⟨w, ?_, fun c _ => rfl, fun P hP => g6 P (by omega)⟩
    rw [m_sumOf_85, wr_id (by omega) (by omega), wr_id (by omega) (by omega), if_pos (by omega)]
  | m + 1, n, A, w, g1, g2, g3, g4, g5, g6 => by
    obtain ⟨n, rfl⟩ : ∃ n', n = n' + 1 := ⟨n - 1, by omega⟩
    have hN := hO.1
    have hn := nS_i hO
    have hn7 := nS_le hO
    have hr := hR1 A (by omega)
    obtain ⟨v, a1, a2, a3, a4⟩ := q_sum_109 hO g3 g4 (x2 := x2) (A := A) h0 h1 hMN (by omega) hX hX0 hX1 (R1 := R1) (fun P hP => ⟨g5 P hP, hR1 P hP⟩) (fun (e198_5 : Int) (w198 : Wd) => (if 0 ≤ ((h * (M : Int)) + (A : Int)) ∧ ((h * (M : Int)) + (A : Int)) < 15488 then (m_sumOf_85 (M : Int) x2 h k n ((A : Int) + 1) (wset w198 38 ((h * (M : Int)) + (A : Int)).toNat e198_5)) else none)) (nS S) FU 0 (R1 A) (by omega) (by have := FU_big; omega) hr.1 hr.2
    obtain ⟨w', b1, b2, b3⟩ := q_sum_85 hO (T := T) (x2 := x2) h0 h1 hMN hX hX0 hX1 hR1 k m n (A + 1) (wset w 38 (X + (A : Int)).toNat v) (by omega) (by omega) (RM_w g3 ⟨by rw [wset_far 26 (by decide)], by rw [wset_far 26 (by decide)]⟩ (fun c _ _ => wset_far c (by omega))) (fun s s0 s1 => by rw [wset_far 39 (by decide)]; exact g4 s s0 s1) (fun P hP => by rw [wset_at, if_neg (by omega)]; exact g5 P hP) (fun P hP => by
      rw [wset_at]
      by_cases e : P = A
      · subst e; rw [if_pos rfl]; exact ⟨⟨a2, a3⟩, a4⟩
      · rw [if_neg (by omega)]; exact g6 P (by omega))
    refine ⟨w', ?_, fun c hc => by rw [b2 c hc, wset_far c hc], b3⟩
    have e1 : (h + 1) * (M : Int) = X + M := by rw [Int.add_mul, hX, Int.one_mul]
    rw [m_sumOf_85, wr_id (by omega) (by omega), wr_id (by omega) (by omega), if_neg (by omega), e1, if_pos (by omega), g5 A (by omega)]
    rw [show ((0 : Nat) : Int) = 0 from rfl] at a1
    rw [a1, hX, if_pos (by omega), show ((A : Int) + 1) = ((A + 1 : Nat) : Int) by omega, b1]
def tplan (S : Wd) (T : Int → Int) (h : Int) (A : Nat) (p : Int → Int) : Prop := (∀ s : Int, 0 ≤ s → s < S 5 0 → A.testBit s.toNat = true → h ≤ p s ∧ p s < 120 ∧ may1 S T s (p s) = true) ∧ (∀ s t : Int, 0 ≤ s → s < S 5 0 → 0 ≤ t → t < S 5 0 → A.testBit s.toNat = true → A.testBit t.toNat = true → p s = p t → s = t)
def tw (S : Wd) (A : Nat) (p : Int → Int) : Int := ssum (fun s => wt S s (p s)) (nS S) A
def RDok (S : Wd) (T : Int → Int) (h : Int) (R : Nat → Int) : Prop := ∀ A, A < 2 ^ nS S → (∀ p, tplan S T h A p → R A ≤ tw S A p) ∧ (R A < 268435456 → ∃ p, tplan S T h A p ∧ R A = tw S A p)
theorem tplan_0 (S : Wd) (T : Int → Int) (h : Int) (p : Int → Int) : tplan S T h 0 p := ⟨fun s _ _ z => (by rw [Nat.zero_testBit] at z; cases z), fun s t _ _ _ _ z => (by rw [Nat.zero_testBit] at z; cases z)⟩
theorem tw_0 (S : Wd) (p : Int → Int) : tw S 0 p = 0 := sumI_zero _ _ (fun k _ _ => by rw [Nat.zero_testBit]; rfl)
theorem bit_lt {A t n : Nat} (hA : A < 2 ^ n) (ht : A.testBit t = true) : t < n := by
  rcases Nat.lt_or_ge t n with h | h
  · exact h
  · rw [Nat.testBit_lt_two_pow (Nat.lt_of_lt_of_le hA (Nat.pow_le_pow_right (by omega) h))] at ht
    cases ht
theorem RD_base {S : Wd} (hO : OK S) {T : Int → Int} {R : Nat → Int} (h0 : R 0 = 0) (h1 : ∀ A, 0 < A → A < 2 ^ nS S → R A = 268435456) : RDok S T 120 R := by
  have hn := nS_i hO
  intro A hA
  by_cases e : A = 0
  · subst e
    rw [h0]
    exact ⟨fun p _ => by rw [tw_0]; exact Int.le_refl _, fun _ => ⟨fun _ => 0, tplan_0 _ _ _ _, by rw [tw_0]⟩⟩
  · obtain ⟨t, ht⟩ := Nat.exists_testBit_of_ne_zero e
    have htn := bit_lt hA ht
    rw [h1 A (by omega) hA]
    refine ⟨fun p hp => ?_, fun z => by omega⟩
    have := hp.1 t (by omega) (by omega) (by rw [Int.toNat_natCast]; exact ht)
    omega
theorem RD_step {S : Wd} (hO : OK S) {T : Int → Int} {h : Int} (h1 : h < 120) {R1 R0 : Nat → Int} (hP : RDok S T (h + 1) R1) (hD : ∀ A, A < 2 ^ nS S → IsMinT S T h R1 A 0 (R1 A) (R0 A)) : RDok S T h R0 := by
  have hn := nS_i hO
  have hn7 := nS_le hO
  have h27 : 2 ^ nS S ≤ 2 ^ 7 := Nat.pow_le_pow_right (by omega) hn7
  intro A hA
  obtain ⟨m1, m2, m3⟩ := hD A hA
  have xlt : ∀ t, A.testBit t = true → (A ^^^ 2 ^ t) < 2 ^ nS S := fun t ht => by
    have := sub_xor (show A < 128 by omega) (pow_sub ht)
    have := Nat.two_pow_pos t
    omega
  refine ⟨fun p hp => ?_, fun z => ?_⟩
  · by_cases ex : ∃ s : Int, 0 ≤ s ∧ s < S 5 0 ∧ A.testBit s.toNat = true ∧ p s = h
    · obtain ⟨s, s0, s1, sA, sp⟩ := ex
      have hsub := pow_sub sA
      have hpl : tplan S T (h + 1) (A ^^^ 2 ^ s.toNat) p := by
        refine ⟨fun t t0 t1 z => ?_, fun t u t0 t1 u0 u1 z1 z2 => ?_⟩
        · rw [xor_bit hsub, Bool.and_eq_true, Bool.not_eq_true', Nat.testBit_two_pow, decide_eq_false_iff_not] at z
          have g1 := hp.1 t t0 t1 z.1
          refine ⟨?_, g1.2.1, g1.2.2⟩
          have : p t ≠ h := fun e => z.2 (by rw [hp.2 s t s0 s1 t0 t1 sA z.1 (by rw [sp, e])])
          omega
        · rw [xor_bit hsub, Bool.and_eq_true] at z1 z2
          exact hp.2 t u t0 t1 u0 u1 z1.1 z2.1
      have hR2 := (hP _ (xlt s.toNat sA)).1 p hpl
      have hr := (hp.1 s s0 s1 sA).2.2
      rw [sp] at hr
      have hm := m2 s.toNat (by omega) (by omega) sA (by rw [Int.toNat_of_nonneg s0]; exact hr)
      have e1 : tw S A p = wt S s h + tw S (A ^^^ 2 ^ s.toNat) p := by
        unfold tw
        rw [ssum_split hsub, ssum_one _ (show s.toNat < nS S by omega), Int.toNat_of_nonneg s0, sp]
      rw [Int.toNat_of_nonneg s0] at hm
      omega
    · have hpl : tplan S T (h + 1) A p := by
        refine ⟨fun t t0 t1 z => ?_, hp.2⟩
        have g1 := hp.1 t t0 t1 z
        refine ⟨?_, g1.2.1, g1.2.2⟩
        have : p t ≠ h := fun e => ex ⟨t, t0, t1, z, e⟩
        omega
      have := (hP A hA).1 p hpl
      omega
  · rcases m3 with m3 | ⟨t, _, t1, tA, tR, tv⟩
    · rw [m3] at z ⊢
      obtain ⟨p, a, b⟩ := (hP A hA).2 z
      exact ⟨p, ⟨fun s s0 s1 c => by have := a.1 s s0 s1 c; exact ⟨by omega, this.2⟩, a.2⟩, b⟩
    · have harr := (can_arr (may_arr tR)).2
      have hwt : 0 ≤ wt S t h := by unfold wt; omega
      obtain ⟨p, a, b⟩ := (hP _ (xlt t tA)).2 (by omega)
      have hsub := pow_sub tA
      have inx : ∀ s : Int, 0 ≤ s → A.testBit s.toNat = true → s ≠ t → (A ^^^ 2 ^ t).testBit s.toNat = true := fun s s0 c e => by
        rw [xor_bit hsub, c, Nat.testBit_two_pow, decide_eq_false (by omega)]; rfl
      refine ⟨fun s => if s = t then h else p s, ⟨fun s s0 s1 c => ?_, fun s u s0 s1 u0 u1 c1 c2 e => ?_⟩, ?_⟩
      · dsimp only
        by_cases e : s = t
        · rw [if_pos e, e]
          exact ⟨Int.le_refl _, h1, tR⟩
        · rw [if_neg e]
          have := a.1 s s0 s1 (inx s s0 c e)
          exact ⟨by omega, this.2⟩
      · dsimp only at e
        by_cases e1 : s = t
        · by_cases e2 : u = t
          · omega
          · rw [if_pos e1, if_neg e2] at e
            have := a.1 u u0 u1 (inx u u0 c2 e2)
            omega
        · by_cases e2 : u = t
          · rw [if_neg e1, if_pos e2] at e
            have := a.1 s s0 s1 (inx s s0 c1 e1)
            omega
          · rw [if_neg e1, if_neg e2] at e
            exact a.2 s u s0 s1 u0 u1 (inx s s0 c1 e1) (inx u u0 c2 e2) e
      · rw [tv, b]
        unfold tw
        rw [ssum_split (A := A) hsub, ssum_one _ t1]
        dsimp only
        rw [if_pos rfl]
        congr 1
        refine ssum_on (fun s s0 s1 c => ?_)
        rw [xor_bit hsub, Bool.and_eq_true, Bool.not_eq_true', Nat.testBit_two_pow, decide_eq_false_iff_not] at c
        rw [if_neg (by omega)]

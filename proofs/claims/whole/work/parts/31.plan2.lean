/-! Offering an hour to every set of comers; the least sum over plans. -/
def IsMinH (S : Wd) (h : Int) (Rm : Nat) (O : Nat → Int) (A : Nat) (s : Nat) (u v : Int) : Prop := (u ≠ -1 → v ≠ -1 ∧ v ≤ u) ∧ (∀ t : Nat, s ≤ t → t < nS S → A.testBit t = true → Rm.testBit t = true → O (A ^^^ 2 ^ t) ≠ -1 → v ≠ -1 ∧ v ≤ O (A ^^^ 2 ^ t) + hcost S t h) ∧ (v = u ∨ ∃ t : Nat, s ≤ t ∧ t < nS S ∧ A.testBit t = true ∧ Rm.testBit t = true ∧ O (A ^^^ 2 ^ t) ≠ -1 ∧ v = O (A ^^^ 2 ^ t) + hcost S t h)
theorem pow_sub {A t : Nat} (h : A.testBit t = true) : 2 ^ t &&& A = 2 ^ t := by
  apply Nat.eq_of_testBit_eq
  intro i
  rw [Nat.testBit_and, Nat.testBit_two_pow]
  by_cases e : t = i
  · subst e; rw [h, decide_eq_true rfl]; rfl
  · rw [decide_eq_false e]; rfl
theorem bit_and2 {A B s : Nat} (hA : A < 128) (hB : B < 128) (hs : s < 7) : wr (band (band (A : Int) (B : Int)) (bshl 1 (s : Int))) = 0 ↔ (A.testBit s && B.testBit s) = false := by
  have : A &&& B ≤ A := Nat.and_le_left
  rw [band_n (by omega) (by omega), bit_and (by omega) hs, Nat.testBit_and]
theorem p_offH_11 {S : Wd} (hO : OK S) {h : Int} (h1 : h < 120) {A Rm : Nat} (hA : A < 128) (hR : Rm < 128) (hrd : ∀ t : Nat, t < nS S → Rm.testBit t = true → S 11 t ≤ h) {O : Nat → Int} (hOb : ∀ P, P < A → -1 ≤ O P ∧ O P ≤ 500000000000000000) (k : Wd → Option (Int × Wd)) : ∀ (m n s : Nat) (u : Int) (w : Wd), (s : Int) + m = S 5 0 → m < n → (∀ c, 2 ≤ c → c ≤ 21 → w c = S c) → (∀ P, P < A → w 22 P = O P) → w 22 A = u → -1 ≤ u → u ≤ 600000000000000000 → ∃ v w', x_offerHour_11 h (Rm : Int) (A : Int) k n (s : Int) w = k w' ∧ (∀ c, c ≠ 22 → w' c = w c) ∧ (∀ P, P ≠ A → w' 22 P = w 22 P) ∧ w' 22 A = v ∧ -1 ≤ v ∧ v ≤ 600000000000000000 ∧ IsMinH S h Rm O A s u v
  | 0, n, s, u, w, g1, g2, g3, g4, g5, g6, g7 => by
    obtain ⟨n, rfl⟩ : ∃ n', n = n' + 1 := ⟨n - 1, by omega⟩
    have hN := hO.1
    have hn := nS_i hO
    refine ⟨u, w, ?_, fun c _ => rfl, fun P _ => rfl, g5, g6, g7, fun z => ⟨z, Int.le_refl _⟩, fun t a b => by omega, Or.inl rfl⟩
    rw [x_offerHour_11, g3 5 (by omega) (by omega), wr_id (by omega) (by omega), wr_id (by omega) (by omega), if_pos (by omega)]
  | m + 1, n, s, u, w, g1, g2, g3, g4, g5, g6, g7 => by
    obtain ⟨n, rfl⟩ : ∃ n', n = n' + 1 := ⟨n - 1, by omega⟩
    have hN := hO.1
    have hn := nS_i hO
    have hn7 := nS_le hO
    have hOw := OK_c hO g3
    have hp7 : 2 ^ s < 2 ^ 7 := Nat.pow_lt_pow_right (by omega) (by omega)
    have es : ((s : Int) + 1) = ((s + 1 : Nat) : Int) := by omega
    have ih := p_offH_11 hO h1 hA hR hrd hOb k m n (s + 1)
    have skip : (A.testBit s = true → Rm.testBit s = true → O (A ^^^ 2 ^ s) ≠ -1 → u ≠ -1 ∧ u ≤ O (A ^^^ 2 ^ s) + hcost S s h) → ∃ v w', x_offerHour_11 h (Rm : Int) (A : Int) k n ((s : Int) + 1) w = k w' ∧ (∀ c, c ≠ 22 → w' c = w c) ∧ (∀ P, P ≠ A → w' 22 P = w 22 P) ∧ w' 22 A = v ∧ -1 ≤ v ∧ v ≤ 600000000000000000 ∧ IsMinH S h Rm O A s u v := by
      intro hk
      obtain ⟨v, w', b1, b2, b3, b4, b5, b6, b7, b8, b9⟩ := ih u w (by omega) (by omega) g3 g4 g5 g6 g7
      refine ⟨v, w', by rw [es]; exact b1, b2, b3, b4, b5, b6, b7, fun t a b c d e => ?_, ?_⟩
      · by_cases et : t = s
        · subst et
          have z := hk c d e
          have y := b7 z.1
          exact ⟨y.1, by omega⟩
        · exact b8 t (by omega) b c d e
      · rcases b9 with b9 | ⟨t, c1, c2⟩
        · exact Or.inl b9
        · exact Or.inr ⟨t, by omega, c2⟩
    rw [x_offerHour_11, g3 5 (by omega) (by omega), wr_id (x := S 5 0) (by omega) (by omega), wr_id (x := (s : Int)) (by omega) (by omega), if_neg (by omega)]
    simp only [bit_and2 hA hR (show s < 7 by omega)]
    cases hb : A.testBit s && Rm.testBit s
    · rw [if_pos rfl]
      exact skip (fun x y => by rw [x, y] at hb; cases hb)
    · rw [if_neg (by decide)]
      rw [Bool.and_eq_true] at hb
      have hsub := pow_sub hb.1
      have hx := sub_xor hA hsub
      have hpos := Nat.two_pow_pos s
      have hOx := hOb (A ^^^ 2 ^ s) (by omega)
      have hha : w 11 (s : Int).toNat ≤ h := by rw [g3 11 (by omega) (by omega), Int.toNat_natCast]; exact hrd s (by omega) hb.2
      have ehc : hcost w s h = hcost S s h := by unfold hcost; rw [g3 11 (by omega) (by omega)]
      have hcb := hcost_bd hO (s := (s : Int)) (h := h) (by omega) (by omega) (by rw [Int.toNat_natCast]; exact hrd s (by omega) hb.2) h1
      have f1 : (0 : Int) ≤ ((A ^^^ 2 ^ s : Nat) : Int) ∧ ((A ^^^ 2 ^ s : Nat) : Int) < 128 := by omega
      have f2 : (0 : Int) ≤ (A : Int) ∧ (A : Int) < 128 := by omega
      rw [bshl_pow (by omega), bxor_n (by omega) (by omega)]
      rw [p_hourCost hOw (by omega) (by omega) hha h1, ehc]
      simp only [f1, f2, and_self, if_true, Int.toNat_natCast, Option.bind_some, bcmp_eq0, bcmp_ge0, g5, g4 (A ^^^ 2 ^ s) (by omega)]
      rw [wl_id (x := O (A ^^^ 2 ^ s)) (by omega) (by omega), wl_id (x := -1) (by omega) (by omega), wl_id (x := u) (by omega) (by omega), wl_id (x := O (A ^^^ 2 ^ s) + hcost S s h) (by omega) (by omega)]
      by_cases d : O (A ^^^ 2 ^ s) = -1
      · rw [if_pos d]
        exact skip (fun _ _ z => absurd d z)
      · rw [if_neg d]
        have take : (u ≠ -1 → O (A ^^^ 2 ^ s) + hcost S s h ≤ u) → ∃ v w', x_offerHour_11 h (Rm : Int) (A : Int) k n ((s : Int) + 1) (wset w 22 A (O (A ^^^ 2 ^ s) + hcost S s h)) = k w' ∧ (∀ c, c ≠ 22 → w' c = w c) ∧ (∀ P, P ≠ A → w' 22 P = w 22 P) ∧ w' 22 A = v ∧ -1 ≤ v ∧ v ≤ 600000000000000000 ∧ IsMinH S h Rm O A s u v := by
          intro hk
          obtain ⟨v, w', b1, b2, b3, b4, b5, b6, b7, b8, b9⟩ := ih (O (A ^^^ 2 ^ s) + hcost S s h) (wset w 22 A (O (A ^^^ 2 ^ s) + hcost S s h)) (by omega) (by omega) (fun c x y => by rw [wset_far c (by omega)]; exact g3 c x y) (fun P hP => by rw [wset_at, if_neg (by omega)]; exact g4 P hP) (by rw [wset_at, if_pos rfl]) (by omega) (by omega)
          have b7' := b7 (by omega)
          refine ⟨v, w', by rw [es]; exact b1, fun c hc => by rw [b2 c hc, wset_far c hc], fun P hP => by rw [b3 P hP, wset_at, if_neg hP], b4, b5, b6, fun z => ⟨b7'.1, by have := hk z; omega⟩, fun t a b c d2 e => ?_, ?_⟩
          · by_cases et : t = s
            · subst et; exact b7'
            · exact b8 t (by omega) b c d2 e
          · rcases b9 with b9 | ⟨t, c1, c2⟩
            · exact Or.inr ⟨s, by omega, by omega, hb.1, hb.2, d, b9⟩
            · exact Or.inr ⟨t, by omega, c2⟩
        by_cases e1 : u = -1
        · rw [if_pos e1]
          exact take (fun z => absurd e1 z)
        · rw [if_neg e1]
          by_cases e2 : u ≤ O (A ^^^ 2 ^ s) + hcost S s h
          · rw [if_pos e2]
            exact skip (fun _ _ _ => ⟨e1, e2⟩)
          · rw [if_neg e2]
            exact take (fun _ => by omega)
theorem p_offH_3 {S : Wd} (hO : OK S) {h : Int} (h1 : h < 120) {Rm : Nat} (hR : Rm < 128) (hrd : ∀ t : Nat, t < nS S → Rm.testBit t = true → S 11 t ≤ h) {O : Nat → Int} (hOb : ∀ P, P < 128 → -1 ≤ O P ∧ O P ≤ 500000000000000000) : ∀ (m n : Nat) (w : Wd), m < 128 → m < n → (∀ c, 2 ≤ c → c ≤ 21 → w c = S c) → (∀ P, P ≤ m → w 22 P = O P) → ∃ w', x_offerHour_3 h (Rm : Int) n (m : Int) w = some (0, w') ∧ (∀ c, c ≠ 22 → w' c = w c) ∧ w' 22 0 = w 22 0 ∧ (∀ A, 0 < A → A ≤ m → IsMinH S h Rm O A 0 (O A) (w' 22 A)) ∧ (∀ A, m < A → w' 22 A = w 22 A)
  | 0, n, w, g1, g2, g3, g4 => by
    obtain ⟨n, rfl⟩ : ∃ n', n = n' + 1 := ⟨n - 1, by omega⟩
    refine ⟨w, ?_, fun c _ => rfl, rfl, fun A a b => by omega, fun A _ => rfl⟩
    rw [x_offerHour_3, wr_id (by omega) (by omega), if_pos (by omega)]
  | m + 1, n, w, g1, g2, g3, g4 => by
    obtain ⟨n, rfl⟩ : ∃ n', n = n' + 1 := ⟨n - 1, by omega⟩
    have hN := hO.1
    have hn := nS_i hO
    have hn7 := nS_le hO
    have hb := hOb (m + 1) g1
    obtain ⟨v, w1, a1, a2, a3, a4, a5, a6, a7⟩ := p_offH_11 hO h1 (A := m + 1) g1 hR hrd (O := O) (fun P hP => hOb P (by omega)) (fun w118 => x_offerHour_3 h (Rm : Int) n (((m + 1 : Nat) : Int) + (-1)) w118) (nS S) FU 0 (O (m + 1)) w (by omega) (by have := FU_big; omega) g3 (fun P hP => g4 P (by omega)) (g4 (m + 1) (Nat.le_refl _)) hb.1 (by omega)
    obtain ⟨w', b1, b2, b3, b4, b5⟩ := p_offH_3 hO h1 hR hrd hOb m n w1 (by omega) (by omega) (fun c x y => by rw [a2 c (by omega)]; exact g3 c x y) (fun P hP => by rw [a3 P (by omega)]; exact g4 P (by omega))
    refine ⟨w', ?_, fun c hc => by rw [b2 c hc, a2 c hc], by rw [b3, a3 0 (by omega)], fun A x y => ?_, fun A hA => by rw [b5 A (by omega), a3 A (by omega)]⟩
    · rw [x_offerHour_3, wr_id (by omega) (by omega), if_neg (by omega)]
      rw [show ((0 : Nat) : Int) = 0 from rfl] at a1
      rw [a1, show (((m + 1 : Nat) : Int) + (-1)) = (m : Int) by omega, b1]
    · by_cases e : A = m + 1
      · subst e
        rw [b5 (m + 1) (by omega), a4]
        exact a7
      · exact b4 A x (by omega)
/-! plans -/
def planP (S : Wd) (E h : Int) (A : Nat) (p : Int → Int) : Prop := (∀ s : Int, 0 ≤ s → s < S 5 0 → A.testBit s.toNat = true → 0 ≤ p s ∧ p s < h ∧ rdy S E (p s) s = true) ∧ (∀ s t : Int, 0 ≤ s → s < S 5 0 → 0 ≤ t → t < S 5 0 → A.testBit s.toNat = true → A.testBit t.toNat = true → p s = p t → s = t)
def pcost (S : Wd) (A : Nat) (p : Int → Int) : Int := ssum (fun s => hcost S s (p s)) (nS S) A
def PDok (S : Wd) (E h : Int) (F : Nat → Int) : Prop := ∀ A, A &&& com S = A → (∀ p, planP S E h A p → F A ≠ -1 ∧ F A ≤ pcost S A p) ∧ (F A ≠ -1 → ∃ p, planP S E h A p ∧ F A = pcost S A p)
theorem pcost_bd {S : Wd} (hO : OK S) {E h : Int} (hh : h ≤ 120) {A : Nat} {p : Int → Int} (hp : planP S E h A p) : 0 ≤ pcost S A p ∧ pcost S A p ≤ 500000000000000000 := by
  have hn := nS_i hO
  have hn7 := nS_le hO
  have := ssum_bd (f := fun s => hcost S s (p s)) (hi := 68000000000000000) (n := nS S) (A := A) (by decide) (fun s a b c => by
    have h1 := hp.1 s a (by omega) c
    have h2 := h1.2.2
    unfold rdy at h2
    rw [Bool.and_eq_true] at h2
    exact hcost_bd hO a (by omega) (can_arr h2.1).2 (by omega))
  unfold pcost
  omega
theorem com_mem {S : Wd} (hO : OK S) {A : Nat} (h : A &&& com S = A) {t : Nat} (ht : A.testBit t = true) : t < nS S ∧ bth S t = true := by
  have := sub_bit h t ht
  rw [com_bit, Bool.and_eq_true, decide_eq_true_eq] at this
  exact this
theorem plan_0 (S : Wd) (E h : Int) (p : Int → Int) : planP S E h 0 p := ⟨fun s _ _ z => (by rw [Nat.zero_testBit] at z; cases z), fun s t _ _ _ _ z => (by rw [Nat.zero_testBit] at z; cases z)⟩
theorem PD_base {S : Wd} (hO : OK S) {E : Int} {F : Nat → Int} (h0 : F 0 = 0) (h1 : ∀ A, 0 < A → A < 128 → F A = -1) : PDok S E 0 F := by
  have hn := nS_i hO
  intro A hA
  have hlt := com_lt hO
  have hle : A ≤ com S := by rw [← hA]; exact Nat.and_le_right
  by_cases e : A = 0
  · subst e
    have hz : ∀ p, pcost S 0 p = 0 := fun p => sumI_zero _ _ (fun k _ _ => by rw [Nat.zero_testBit]; rfl)
    refine ⟨fun p _ => by rw [h0, hz]; exact ⟨by decide, Int.le_refl _⟩, fun _ => ⟨fun _ => 0, plan_0 S E 0 _, by rw [h0, hz]⟩⟩
  · obtain ⟨t, ht⟩ := Nat.exists_testBit_of_ne_zero e
    have hm := com_mem hO hA ht
    refine ⟨fun p hp => ?_, fun z => absurd (h1 A (by omega) (by omega)) z⟩
    have := hp.1 t (by omega) (by omega) (by rw [Int.toNat_natCast]; exact ht)
    omega
theorem ssum_one (f : Int → Int) {n t : Nat} (h : t < n) : ssum f n (2 ^ t) = f t := by
  unfold ssum
  have e : n = t + (1 + (n - t - 1)) := by omega
  rw [e, sumI_split, sumI_split, sumI_zero t 0 (fun k a b => by rw [Nat.testBit_two_pow, decide_eq_false (by omega)]; rfl), sumI_zero (n - t - 1) _ (fun k a b => by rw [Nat.testBit_two_pow, decide_eq_false (by omega)]; rfl), sumI_s]
  rw [show (0 : Int) + (t : Int) = (t : Int) by omega, Int.toNat_natCast, Nat.testBit_two_pow_self]
  simp [sumI]
theorem PD_step {S : Wd} (hO : OK S) {E h : Int} (h0 : 0 ≤ h) {Rm : Nat} (hRm : ∀ t : Nat, t < nS S → Rm.testBit t = rdy S E h t) {O D : Nat → Int} (hP : PDok S E h O) (hD0 : D 0 = O 0) (hD : ∀ A, 0 < A → A ≤ com S → IsMinH S h Rm O A 0 (O A) (D A)) : PDok S E (h + 1) D := by
  have hn := nS_i hO
  have hlt := com_lt hO
  intro A hA
  have hle : A ≤ com S := by rw [← hA]; exact Nat.and_le_right
  -- the same for the empty set
  by_cases eA : A = 0
  · subst eA
    rw [hD0]
    refine ⟨fun p hp => ?_, fun z => ?_⟩
    · exact (hP 0 hA).1 p (plan_0 S E h p)
    · obtain ⟨p, a, b⟩ := (hP 0 hA).2 z
      exact ⟨p, plan_0 S E (h + 1) p, b⟩
  obtain ⟨m1, m2, m3⟩ := hD A (by omega) hle
  have sub1 : ∀ t, A.testBit t = true → (A ^^^ 2 ^ t) &&& com S = (A ^^^ 2 ^ t) := fun t ht => by
    apply Nat.eq_of_testBit_eq
    intro i
    rw [Nat.testBit_and]
    cases hx : (A ^^^ 2 ^ t).testBit i
    · rfl
    · rw [xor_bit (pow_sub ht), Bool.and_eq_true] at hx
      rw [sub_bit hA i hx.1]
      rfl
  refine ⟨fun p hp => ?_, fun z => ?_⟩
  · by_cases ex : ∃ s : Int, 0 ≤ s ∧ s < S 5 0 ∧ A.testBit s.toNat = true ∧ p s = h
    · obtain ⟨s, s0, s1, sA, sp⟩ := ex
      have hsub := pow_sub sA
      have hpl : planP S E h (A ^^^ 2 ^ s.toNat) p := by
        refine ⟨fun t t0 t1 z => ?_, fun t u t0 t1 u0 u1 z1 z2 => ?_⟩
        · rw [xor_bit hsub, Bool.and_eq_true, Bool.not_eq_true', Nat.testBit_two_pow, decide_eq_false_iff_not] at z
          have h1 := hp.1 t t0 t1 z.1
          refine ⟨h1.1, ?_, h1.2.2⟩
          have : p t ≠ h := fun e => z.2 (by rw [hp.2 s t s0 s1 t0 t1 sA z.1 (by rw [sp, e])])
          omega
        · rw [xor_bit hsub, Bool.and_eq_true] at z1 z2
          exact hp.2 t u t0 t1 u0 u1 z1.1 z2.1
      have hO2 := (hP _ (sub1 s.toNat sA)).1 p hpl
      have hr := (hp.1 s s0 s1 sA).2.2
      rw [sp] at hr
      have hm := m2 s.toNat (by omega) (by omega) sA (by rw [hRm s.toNat (by omega), Int.toNat_of_nonneg s0]; exact hr) hO2.1
      refine ⟨hm.1, ?_⟩
      have e1 : pcost S A p = hcost S s h + pcost S (A ^^^ 2 ^ s.toNat) p := by
        unfold pcost
        rw [ssum_split hsub, ssum_one _ (show s.toNat < nS S by omega), Int.toNat_of_nonneg s0, sp]
      rw [Int.toNat_of_nonneg s0] at hm
      omega
    · have hpl : planP S E h A p := by
        refine ⟨fun t t0 t1 z => ?_, hp.2⟩
        have h1 := hp.1 t t0 t1 z
        refine ⟨h1.1, ?_, h1.2.2⟩
        have : p t ≠ h := fun e => ex ⟨t, t0, t1, z, e⟩
        omega
      have h2 := (hP A hA).1 p hpl
      have h3 := m1 h2.1
      exact ⟨h3.1, by omega⟩
  · rcases m3 with m3 | ⟨t, _, t1, tA, tR, tO, tv⟩
    · rw [m3] at z ⊢
      obtain ⟨p, a, b⟩ := (hP A hA).2 z
      exact ⟨p, ⟨fun s s0 s1 c => by have := a.1 s s0 s1 c; exact ⟨this.1, by omega, this.2.2⟩, a.2⟩, b⟩
    · obtain ⟨p, a, b⟩ := (hP _ (sub1 t tA)).2 tO
      have hsub := pow_sub tA
      rw [hRm t t1] at tR
      have inx : ∀ s : Int, 0 ≤ s → A.testBit s.toNat = true → s ≠ t → (A ^^^ 2 ^ t).testBit s.toNat = true := fun s s0 c e => by
        rw [xor_bit hsub, c, Nat.testBit_two_pow, decide_eq_false (by omega)]; rfl
      refine ⟨fun s => if s = t then h else p s, ⟨fun s s0 s1 c => ?_, fun s u s0 s1 u0 u1 c1 c2 e => ?_⟩, ?_⟩
      · dsimp only
        by_cases e : s = t
        · rw [if_pos e, e]
          exact ⟨h0, by omega, tR⟩
        · rw [if_neg e]
          have := a.1 s s0 s1 (inx s s0 c e)
          exact ⟨this.1, by omega, this.2.2⟩
      · dsimp only at e
        by_cases e1 : s = t
        · by_cases e2 : u = t
          · omega
          · rw [if_pos e1, if_neg e2] at e
            have := a.1 u u0 u1 (inx u u0 c2 e2)
            omega
        · by_cases e2 : u = t
          · rw [if_neg e1, if_pos e2] at e
            have := a.1 s s0 s1 (inx s s0 c1 e1)
            omega
          · rw [if_neg e1, if_neg e2] at e
            exact a.2 s u s0 s1 u0 u1 (inx s s0 c1 e1) (inx u u0 c2 e2) e
      · rw [tv, b]
        unfold pcost
        rw [ssum_split (A := A) hsub, ssum_one _ t1]
        dsimp only
        rw [if_pos rfl, Int.add_comm]
        congr 1
        refine ssum_on (fun s s0 s1 c => ?_)
        rw [xor_bit hsub, Bool.and_eq_true, Bool.not_eq_true', Nat.testBit_two_pow, decide_eq_false_iff_not] at c
        rw [if_neg (by omega)]

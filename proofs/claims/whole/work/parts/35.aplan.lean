/-! The reference's plan; plan agrees. -/
theorem q_sum_78 {S : Wd} (hO : OK S) {T : Int → Int} {M : Nat} (hMN : M = 2 ^ nS S) : ∀ (m n : Nat) (w : Wd), m ≤ 120 → m < n → RM S w → toldIn S w T → (∀ P, P < M → 0 ≤ w 38 ((m : Int) * M + (P : Int)).toNat ∧ w 38 ((m : Int) * M + (P : Int)).toNat ≤ 268435456) → RDok S T m (fun P => w 38 ((m : Int) * M + (P : Int)).toNat) → ∃ w', m_sumOf_78 (M : Int) ((com S : Nat) : Int) n ((m : Int) - 1) w = some (w' 38 (com S), w') ∧ (∀ c, c ≠ 38 → w' c = w c) ∧ (0 ≤ w' 38 (com S) ∧ w' 38 (com S) ≤ 268435456) ∧ RDok S T 0 (fun P => w' 38 P)
  | 0, n, w, g1, g2, g3, g4, g5, g6 => by
    obtain ⟨n, rfl⟩ : ∃ n', n = n' + 1 := ⟨n - 1, by omega⟩
    have hlt := com_lt hO
    have hcM : com S < M := by
      have := (maskI_lt (bth S) (nS S) 0).1
      rw [Nat.zero_add] at this
      rw [hMN]
      exact this
    have ez : ∀ P : Nat, (((0 : Nat) : Int) * (M : Int) + (P : Int)).toNat = P := fun P => by
      rw [show ((0 : Nat) : Int) = 0 from rfl, Int.zero_mul]
      omega
    simp only [ez] at g5 g6
    refine ⟨w, ?_, fun c _ => rfl, g5 (com S) hcM, g6⟩
    rw [m_sumOf_78, wr_id (by omega) (by omega), if_pos (by omega), if_pos (by omega), Int.toNat_natCast]
  | m + 1, n, w, g1, g2, g3, g4, g5, g6 => by
    obtain ⟨n, rfl⟩ : ∃ n', n = n' + 1 := ⟨n - 1, by omega⟩
    have hn7 := nS_le hO
    have h27 : 2 ^ nS S ≤ 2 ^ 7 := Nat.pow_le_pow_right (by omega) hn7
    have hM128 : M ≤ 128 := by omega
    have eX : ((m + 1 : Nat) : Int) * (M : Int) = (m : Int) * M + M := by rw [Int.natCast_add, Int.add_mul]; simp
    have hb := mul_bd (a := (m : Int)) (b := (M : Int)) (A := 119) (B := 128) (by omega) (by omega) (by omega) (by omega)
    have hX2 : (m : Int) * M + 2 * M ≤ 15488 := by
      have : ((m : Int) + 2) * M ≤ 121 * 128 := (mul_bd (by omega) (by omega) (by omega) (by omega)).2
      rw [Int.add_mul] at this
      omega
    simp only [eX] at g5 g6
    obtain ⟨w1, a1, a2, a3⟩ := q_sum_85 hO (T := T) (h := (m : Int)) (X := (m : Int) * M) (M := M) (x2 := ((com S : Nat) : Int)) (by omega) (by omega) hMN rfl hb.1 hX2 (R1 := fun P => w 38 ((m : Int) * M + M + (P : Int)).toNat) g5 (fun w217 => m_sumOf_78 (M : Int) ((com S : Nat) : Int) n ((m : Int) + (-1)) w217) M FU 0 w (by omega) (by have := FU_big; omega) g3 g4 (fun P _ => rfl) (fun P hP => by omega)
    have hR : RDok S T m (fun P => w1 38 ((m : Int) * M + (P : Int)).toNat) := RD_step hO (by omega) (by
      rw [show ((m : Int) + 1) = ((m + 1 : Nat) : Int) by omega]
      exact g6) (fun A hA => (a3 A (by omega)).2)
    obtain ⟨w', b1, b2, b3, b4⟩ := q_sum_78 hO (T := T) hMN m n w1 (by omega) (by omega) (RM_w g3 ⟨by rw [a2 26 (by decide)], by rw [a2 26 (by decide)]⟩ (fun c _ _ => a2 c (by omega))) (fun s s0 s1 => by rw [a2 39 (by decide)]; exact g4 s s0 s1) (fun P hP => (a3 P hP).1) hR
    refine ⟨w', ?_, fun c hc => by rw [b2 c hc, a2 c hc], b3, b4⟩
    rw [m_sumOf_78, show ((m + 1 : Nat) : Int) - 1 = (m : Int) by omega, wr_id (by omega) (by omega), if_neg (by omega)]
    rw [show ((0 : Nat) : Int) = 0 from rfl] at a1
    rw [a1, show (m : Int) + (-1) = (m : Int) - 1 by omega, b1]
theorem q_sum_11 {S w : Wd} (hO : OK S) (hM : RM S w) {x1 : Int} (k : Int → Wd → Option (Int × Wd)) : ∀ (m n a s : Nat), (s : Int) + m = S 5 0 → m < n → a < 2 ^ s → m_sumOf_11 x1 k n (a : Int) (s : Int) w = k ((a + maskI (bth S) m s : Nat) : Int) w
  | 0, n, a, s, h1, h2, h3 => by
    obtain ⟨n, rfl⟩ : ∃ n', n = n' + 1 := ⟨n - 1, by omega⟩
    have hN := hO.1
    rw [m_sumOf_11, hM.1, wr_id (by omega) (by omega), wr_id (by omega) (by omega), if_pos (by omega)]
    rfl
  | m + 1, n, a, s, h1, h2, h3 => by
    obtain ⟨n, rfl⟩ : ∃ n', n = n' + 1 := ⟨n - 1, by omega⟩
    have hN := hO.1
    have hQ := hO.2.1
    obtain ⟨z1, z2, z3⟩ := row33 hO hM (s : Int) (by omega) (by omega)
    have z1' : w 33 (s : Int).toNat = S 14 (s : Int).toNat := z1
    have z2' : -1 ≤ S 14 (s : Int).toNat := z2
    have z3' : S 14 (s : Int).toNat < S 16 0 := z3
    have es : ((s : Int) + 1) = ((s + 1 : Nat) : Int) := by omega
    rw [m_sumOf_11, hM.1, z1', wr_id (x := S 5 0) (by omega) (by omega), wr_id (x := (s : Int)) (by omega) (by omega), if_neg (by omega), if_pos (by omega), wr_id (x := S 14 (s : Int).toNat) (by omega) (by omega), wr_id (x := -1) (by omega) (by omega), maskI]
    by_cases c : S 14 (s : Int).toNat = -1
    · have eb : bth S s = false := by simp [bth]; exact c
      rw [if_pos c, eb, if_neg (by decide), es, q_sum_11 hO hM k m n a (s + 1) (by omega) (by omega) (by rw [Nat.pow_succ]; omega), Nat.zero_add]
    · have eb : bth S s = true := by simp [bth]; exact c
      rw [if_neg c, eb, if_pos rfl, bor_pow (by omega) h3, es, q_sum_11 hO hM k m n (a + 2 ^ s) (s + 1) (by omega) (by omega) (by rw [Nat.pow_succ]; omega), Int.toNat_natCast, Nat.add_assoc]
theorem q_sum_43 {M : Nat} (hM0 : 0 < M) (hM : M ≤ 128) {x2 : Int} (k : Wd → Option (Int × Wd)) : ∀ (m n A : Nat) (w : Wd), A + m = M → m < n → (∀ P, P < A → w 38 (120 * (M : Int) + (P : Int)).toNat = if P = 0 then 0 else 268435456) → ∃ w', m_sumOf_43 (M : Int) x2 k n (A : Int) w = k w' ∧ (∀ c, c ≠ 38 → w' c = w c) ∧ (∀ P, P < M → w' 38 (120 * (M : Int) + (P : Int)).toNat = if P = 0 then 0 else 268435456)
  | 0, n, A, w, h1, h2, h3 => by
    obtain ⟨n, rfl⟩ : ∃ n', n = n' + 1 := ⟨n - 1, by omega⟩
    refine ⟨w, ?_, fun c _ => rfl, fun P hP => h3 P (by omega)⟩
    rw [m_sumOf_43, wr_id (by omega) (by omega), wr_id (by omega) (by omega), if_pos (by omega)]
  | m + 1, n, A, w, h1, h2, h3 => by
    obtain ⟨n, rfl⟩ : ∃ n', n = n' + 1 := ⟨n - 1, by omega⟩
    obtain ⟨w', a1, a2, a3⟩ := q_sum_43 hM0 hM (x2 := x2) k m n (A + 1) (wset w 38 (120 * (M : Int) + (A : Int)).toNat (if A = 0 then 0 else 268435456)) (by omega) (by omega) (fun P hP => by
      rw [wset_at]
      by_cases e : P = A
      · subst e; rw [if_pos rfl]
      · rw [if_neg (by omega)]; exact h3 P (by omega))
    refine ⟨w', ?_, fun c hc => by rw [a2 c hc, wset_far c hc], a3⟩
    have f1 : 0 ≤ 120 * (M : Int) + (A : Int) ∧ 120 * (M : Int) + (A : Int) < 15488 := by omega
    rw [m_sumOf_43, wr_id (by omega) (by omega), wr_id (by omega) (by omega), if_neg (by omega)]
    simp only [f1, and_self, if_true]
    rw [show ((A : Int) + 1) = ((A + 1 : Nat) : Int) by omega]
    by_cases e : A = 0
    · rw [if_pos (by omega)]
      rw [if_pos e] at a1
      exact a1
    · rw [if_neg (by omega)]
      rw [if_neg e] at a1
      exact a1
def tfull (S : Wd) (T : Int → Int) (p : Int → Int) : Prop := fplan S p ∧ ∀ s : Int, 0 ≤ s → s < S 5 0 → bth S s = true → T s = -1 ∨ T s = p s
theorem tplan_full {S : Wd} (hO : OK S) {T p : Int → Int} : tplan S T 0 (com S) p ↔ tfull S T p := by
  have hn := nS_i hO
  constructor
  · intro h
    refine ⟨⟨fun s s0 s1 sb => ?_, fun s t s0 s1 t0 t1 sb tb e => h.2 s t s0 s1 t0 t1 (by rw [com_bth s0 (by omega)]; exact sb) (by rw [com_bth t0 (by omega)]; exact tb) e⟩, fun s s0 s1 sb => ?_⟩
    · have := h.1 s s0 s1 (by rw [com_bth s0 (by omega)]; exact sb)
      exact ⟨this.1, this.2.1, may_arr this.2.2⟩
    · have := (h.1 s s0 s1 (by rw [com_bth s0 (by omega)]; exact sb)).2.2
      unfold may1 at this
      rw [Bool.and_eq_true, decide_eq_true_eq] at this
      exact this.2
  · rintro ⟨h1, h2⟩
    refine ⟨fun s s0 s1 c => ?_, fun s t s0 s1 t0 t1 c1 c2 e => h1.2 s t s0 s1 t0 t1 (by rw [com_bth s0 (by omega)] at c1; exact c1) (by rw [com_bth t0 (by omega)] at c2; exact c2) e⟩
    rw [com_bth s0 (by omega)] at c
    have := h1.1 s s0 s1 c
    refine ⟨this.1, this.2.1, ?_⟩
    unfold may1
    rw [this.2.2, decide_eq_true (h2 s s0 s1 c)]
    rfl
theorem tw_full {S : Wd} (p : Int → Int) : tw S (com S) p = wsum S p := by
  unfold tw ssum wsum
  refine sumI_congr (nS S) 0 (fun k a b => ?_)
  rw [com_bth a (by omega)]
  rfl
theorem q_sumOf {S w : Wd} (hO : OK S) (hM : RM S w) {T : Int → Int} (hT : toldIn S w T) : ∃ v w', m_sumOf w = some (v, w') ∧ (∀ c, c ≠ 38 → w' c = w c) ∧ (0 ≤ v ∧ v ≤ 268435456) ∧ (∀ p, tfull S T p → v ≤ wsum S p) ∧ (v < 268435456 → ∃ p, tfull S T p ∧ v = wsum S p) := by
  have hN := hO.1
  have hn := nS_i hO
  have hn7 := nS_le hO
  have h27 : 2 ^ nS S ≤ 2 ^ 7 := Nat.pow_le_pow_right (by omega) hn7
  have hpos := Nat.two_pow_pos (nS S)
  obtain ⟨w1, a1, a2, a3⟩ := q_sum_43 (M := 2 ^ nS S) hpos (by omega) (x2 := ((com S : Nat) : Int)) (fun w75 => m_sumOf_78 ((2 ^ nS S : Nat) : Int) ((com S : Nat) : Int) FU 119 w75) (2 ^ nS S) FU 0 w (by omega) (by have := FU_big; omega) (fun P hP => by omega)
  have hM1 : RM S w1 := RM_w hM ⟨by rw [a2 26 (by decide)], by rw [a2 26 (by decide)]⟩ (fun c _ _ => a2 c (by omega))
  obtain ⟨w', b1, b2, b3, b4⟩ := q_sum_78 hO (T := T) (M := 2 ^ nS S) rfl 120 FU w1 (by omega) (by have := FU_big; omega) hM1 (fun s s0 s1 => by rw [a2 39 (by decide)]; exact hT s s0 s1) (fun P hP => by
    rw [show ((120 : Nat) : Int) = 120 from rfl, a3 P hP]
    split <;> omega) (RD_base hO (by rw [show ((120 : Nat) : Int) = 120 from rfl]; exact a3 0 hpos) (fun A x y => by
    rw [show ((120 : Nat) : Int) = 120 from rfl, a3 A y, if_neg (by omega)]))
  have hc : com S < 2 ^ nS S := by
    have := (maskI_lt (bth S) (nS S) 0).1
    rw [Nat.zero_add] at this
    exact this
  have hR := b4 (com S) hc
  refine ⟨w' 38 (com S), w', ?_, fun c hc => by rw [b2 c hc, a2 c hc], b3, fun p hp => by rw [← tw_full]; exact hR.1 p ((tplan_full hO).mpr hp), fun z => ?_⟩
  · unfold m_sumOf
    rw [hM.1, show S 5 0 = ((nS S : Nat) : Int) by omega, bshl_pow (by omega)]
    have e := q_sum_11 hO hM (x1 := ((2 ^ nS S : Nat) : Int)) (fun (e41_2 : Int) (w41 : Wd) => (m_sumOf_43 ((2 ^ nS S : Nat) : Int) e41_2 (fun (w75 : Wd) => (m_sumOf_78 ((2 ^ nS S : Nat) : Int) e41_2 FU 119 w75)) FU 0 w41)) (nS S) FU 0 0 (by omega) (by have := FU_big; omega) (by decide)
    rw [show ((0 : Nat) : Int) = 0 from rfl, Nat.zero_add, show maskI (bth S) (nS S) 0 = com S from rfl] at e
    rw [e]
    rw [show ((0 : Nat) : Int) = 0 from rfl] at a1
    rw [a1]
    rw [show ((120 : Nat) : Int) - 1 = 119 from rfl] at b1
    exact b1
  · obtain ⟨p, x, y⟩ := hR.2 z
    exact ⟨p, (tplan_full hO).mp x, by rw [← tw_full]; exact y⟩
/-! the least plan, ship by ship -/
def cD (S : Wd) (p : Int → Int) (s : Int) : Int := if s < S 5 0 then (if bth S s then p s else 0) else 0
theorem hnum_cD {S : Wd} (hO : OK S) (p : Int → Int) : hnum S p = cD S p 0 * 4398046511104 + cD S p 1 * 34359738368 + cD S p 2 * 268435456 + cD S p 3 * 2097152 + cD S p 4 * 16384 + cD S p 5 * 128 + cD S p 6 := by
  have hn := nS_i hO
  have hn7 := nS_le hO
  unfold hnum
  rw [sumI_7 _ hn7]
  have e : ∀ s : Int, (if s < (nS S : Int) then (if bth S s then p s * hw s else 0) else 0) = cD S p s * hw s := fun s => by
    unfold cD
    rw [← hn]
    split
    · cases bth S s <;> simp
    · simp
  simp only [e]
  rw [sumI_s, sumI_s, sumI_s, sumI_s, sumI_s, sumI_s, sumI_s]
  rw [show hw 0 = 4398046511104 from by decide, show hw (0 + 1) = 34359738368 from by decide, show hw (0 + 1 + 1) = 268435456 from by decide, show hw (0 + 1 + 1 + 1) = 2097152 from by decide, show hw (0 + 1 + 1 + 1 + 1) = 16384 from by decide, show hw (0 + 1 + 1 + 1 + 1 + 1) = 128 from by decide, show hw (0 + 1 + 1 + 1 + 1 + 1 + 1) = 1 from by decide]
  show _ + (_ + (_ + (_ + (_ + (_ + (_ + (0 : Int))))))) = _
  rw [show ((0 : Int) + 1) = 1 from rfl, show ((1 : Int) + 1) = 2 from rfl, show ((2 : Int) + 1) = 3 from rfl, show ((3 : Int) + 1) = 4 from rfl, show ((4 : Int) + 1) = 5 from rfl, show ((5 : Int) + 1) = 6 from rfl]
  omega
theorem cD_bd {S : Wd} {p : Int → Int} (hp : fplan S p) {s : Int} (s0 : 0 ≤ s) : 0 ≤ cD S p s ∧ cD S p s ≤ 119 := by
  unfold cD
  by_cases c : s < S 5 0
  · rw [if_pos c]
    cases hb : bth S s
    · simp
    · have := hp.1 s s0 c hb
      simp
      omega
  · rw [if_neg c]; omega
theorem lex_lt {S : Wd} (hO : OK S) {p q : Int → Int} (hp : fplan S p) (hq : fplan S q) {s : Int} (s0 : 0 ≤ s) (s1 : s < S 5 0) (sb : bth S s = true) (h1 : ∀ t : Int, 0 ≤ t → t < s → bth S t = true → p t = q t) (h2 : p s < q s) : hnum S p < hnum S q := by
  have hN := hO.1
  rw [hnum_cD hO, hnum_cD hO]
  have b := fun s (z : (0 : Int) ≤ s) => cD_bd hp z
  have c := fun s (z : (0 : Int) ≤ s) => cD_bd hq z
  have e : ∀ t : Int, 0 ≤ t → t < s → cD S p t = cD S q t := fun t t0 t1 => by
    have ht : t < S 5 0 := by omega
    unfold cD
    simp only [ht, if_true]
    cases hb : bth S t
    · rfl
    · exact h1 t t0 t1 hb
  have l : cD S p s < cD S q s := by
    unfold cD
    rw [if_pos s1, if_pos s1, sb]
    exact h2
  have b0 := b 0 (by omega)
  have b1 := b 1 (by omega)
  have b2 := b 2 (by omega)
  have b3 := b 3 (by omega)
  have b4 := b 4 (by omega)
  have b5 := b 5 (by omega)
  have b6 := b 6 (by omega)
  have c0 := c 0 (by omega)
  have c1 := c 1 (by omega)
  have c2 := c 2 (by omega)
  have c3 := c 3 (by omega)
  have c4 := c 4 (by omega)
  have c5 := c 5 (by omega)
  have c6 := c 6 (by omega)
  have hs : s = 0 ∨ s = 1 ∨ s = 2 ∨ s = 3 ∨ s = 4 ∨ s = 5 ∨ s = 6 := by omega
  rcases hs with rfl | rfl | rfl | rfl | rfl | rfl | rfl
  · omega
  · have e0 := e 0 (by omega) (by omega); omega
  · have e0 := e 0 (by omega) (by omega); have e1 := e 1 (by omega) (by omega); omega
  · have e0 := e 0 (by omega) (by omega); have e1 := e 1 (by omega) (by omega); have e2 := e 2 (by omega) (by omega); omega
  · have e0 := e 0 (by omega) (by omega); have e1 := e 1 (by omega) (by omega); have e2 := e 2 (by omega) (by omega); have e3 := e 3 (by omega) (by omega); omega
  · have e0 := e 0 (by omega) (by omega); have e1 := e 1 (by omega) (by omega); have e2 := e 2 (by omega) (by omega); have e3 := e 3 (by omega) (by omega); have e4 := e 4 (by omega) (by omega); omega
  · have e0 := e 0 (by omega) (by omega); have e1 := e 1 (by omega) (by omega); have e2 := e 2 (by omega) (by omega); have e3 := e 3 (by omega) (by omega); have e4 := e 4 (by omega) (by omega); have e5 := e 5 (by omega) (by omega); omega
/-- what is told when the ships before s have their hours -/
def Ts (S : Wd) (p : Int → Int) (s : Int) : Int → Int := fun t => if t < s ∧ bth S t = true then p t else -1
def Tu (S : Wd) (p : Int → Int) (s h : Int) : Int → Int := fun t => if t = s then h else Ts S p s t
theorem q_plan_77 {S : Wd} (hO : OK S) {p : Int → Int} (hp : fplan S p) (hmin : ∀ p', fplan S p' → pcost S (com S) p ≤ pcost S (com S) p') {s : Int} (s0 : 0 ≤ s) (s1 : s < S 5 0) (sb : bth S s = true) (k : Wd → Option (Int × Wd)) : ∀ (m n : Nat) (h : Int) (w : Wd), 0 ≤ h → h + m = p s → m + 1 < n → RM S w → (∀ t : Int, 0 ≤ t → t < S 5 0 → t ≠ s → w 39 t.toNat = Ts S p s t) → ∃ w', m_plan_77 (wsum S p) s k n h 0 w = k w' ∧ (∀ c, c ≠ 38 → c ≠ 39 → w' c = w c) ∧ (∀ j : Nat, w' 39 j = if j = s.toNat then p s else w 39 j)
  | m, n, h, w, h0, h1, h2, hM, hT => by
    obtain ⟨n, rfl⟩ : ∃ n', n = n' + 1 := ⟨n - 1, by omega⟩
    have hN := hO.1
    have hps := hp.1 s s0 s1 sb
    have hw := wsum_bd hO hp
    have hTs : ∀ t : Int, 0 ≤ t → t < S 5 0 → -1 ≤ Ts S p s t ∧ Ts S p s t < 120 := fun t t0 t1 => by
      unfold Ts
      split
      · rename_i hh
        have := hp.1 t t0 t1 hh.2
        omega
      · omega
    -- with nothing told for s
    have t1 : toldIn S (wset w 39 s.toNat (-1)) (Ts S p s) := fun t t0 t1 => by
      refine ⟨?_, hTs t t0 t1⟩
      rw [wset_at]
      by_cases e : t = s
      · subst e; rw [if_pos rfl]; unfold Ts; rw [if_neg (by omega)]
      · rw [if_neg (by omega)]; exact hT t t0 t1 e
    have hM1 : RM S (wset w 39 s.toNat (-1)) := RM_w hM ⟨by rw [wset_far 26 (by decide)], by rw [wset_far 26 (by decide)]⟩ (fun c _ _ => wset_far c (by omega))
    have em : may1 S (Ts S p s) s h = can S s h := by
      unfold may1
      rw [decide_eq_true (show Ts S p s s = -1 ∨ Ts S p s s = h from Or.inl (by unfold Ts; rw [if_neg (by omega)])), Bool.and_true]
    have hh : h < 120 := by omega
    have f1 : 0 ≤ s ∧ s < 7 := by omega
    -- one with h told
    have t2 : toldIn S (wset (wset w 39 s.toNat (-1)) 39 s.toNat h) (Tu S p s h) := fun t t0 t1 => by
      have := hTs t t0 t1
      unfold Tu
      rw [wset_at]
      by_cases e : t = s
      · rw [if_pos e, if_pos (by omega)]; exact ⟨rfl, by omega, hh⟩
      · rw [if_neg e, if_neg (by omega), wset_at, if_neg (by omega)]
        exact ⟨hT t t0 t1 e, this.1, this.2⟩
    have hM2 : RM S (wset (wset w 39 s.toNat (-1)) 39 s.toNat h) := RM_w hM1 ⟨by rw [wset_far 26 (by decide)], by rw [wset_far 26 (by decide)]⟩ (fun c _ _ => wset_far c (by omega))
    obtain ⟨v, w2, a1, a2, a3, a4, a5⟩ := q_sumOf hO hM2 t2
    have rec_ : ∀ w3 : Wd, 0 < m → (∀ c, c ≠ 38 → c ≠ 39 → w3 c = w c) → (∀ j : Nat, j ≠ s.toNat → w3 39 j = w 39 j) → ∃ w', m_plan_77 (wsum S p) s k n (h + 1) 0 w3 = k w' ∧ (∀ c, c ≠ 38 → c ≠ 39 → w' c = w c) ∧ (∀ j : Nat, w' 39 j = if j = s.toNat then p s else w 39 j) := by
      intro w3 hm b1 b2
      obtain ⟨w', c1, c2, c3⟩ := q_plan_77 hO hp hmin s0 s1 sb k (m - 1) n (h + 1) w3 (by omega) (by omega) (by omega) (RM_w hM ⟨by rw [b1 26 (by decide) (by decide)], by rw [b1 26 (by decide) (by decide)]⟩ (fun c _ _ => b1 c (by omega) (by omega))) (fun t t0 t1 te => by rw [b2 _ (by omega)]; exact hT t t0 t1 te)
      refine ⟨w', c1, fun c d1 d2 => by rw [c2 c d1 d2, b1 c d1 d2], fun j => ?_⟩
      rw [c3 j]
      by_cases e : j = s.toNat
      · rw [if_pos e, if_pos e]
      · rw [if_neg e, if_neg e]; exact b2 j e
    rw [m_plan_77, if_pos (show wr 0 = 0 from rfl)]
    simp only [f1, and_self, if_true]
    rw [q_mayCome hO hM1 t1 s0 s1 h0 hh, em]
    simp only [Option.bind_some, wr_bz, bz_eq0]
    cases hc : can S s h
    · rw [if_pos rfl]
      have hm : 0 < m := by
        rcases Nat.eq_zero_or_pos m with e | e
        · have : h = p s := by omega
          rw [this, hps.2.2] at hc
          cases hc
        · exact e
      exact rec_ _ hm (fun c _ d => wset_far c d) (fun j hj => by rw [wset_at, if_neg hj])
    · rw [if_neg (by decide), a1]
      simp only [Option.bind_some]
      rw [wr_id (x := v) (by omega) (by omega), wr_id (x := wsum S p) (by omega) (by omega)]
      rcases Nat.eq_zero_or_pos m with e | e
      · -- the hour of p
        have eh : h = p s := by omega
        have hv : v = wsum S p := by
          have h3 : v ≤ wsum S p := a4 p ⟨hp, fun t t0 t1 tb => by
            unfold Tu Ts
            by_cases e1 : t = s
            · rw [if_pos e1, e1]; exact Or.inr eh
            · rw [if_neg e1]
              by_cases e2 : t < s
              · rw [if_pos ⟨e2, tb⟩]; exact Or.inr rfl
              · rw [if_neg (by omega)]; exact Or.inl rfl⟩
          obtain ⟨p', x, y⟩ := a5 (by omega)
          have h4 := hmin p' x.1
          rw [pcost_eq, pcost_eq] at h4
          have h5 := hnum_bd hO hp
          have h6 := hnum_bd hO x.1
          omega
        rw [if_pos hv]
        obtain ⟨n, rfl⟩ : ∃ n', n = n' + 1 := ⟨n - 1, by omega⟩
        refine ⟨w2, ?_, fun c d1 d2 => by rw [a2 c d1, wset_far c d2, wset_far c d2], fun j => ?_⟩
        · rw [m_plan_77, if_neg (show ¬ wr 1 = 0 by decide)]
        · rw [a2 39 (by decide), wset_at, wset_at]
          by_cases ej : j = s.toNat
          · rw [if_pos ej, if_pos ej, eh]
          · rw [if_neg ej, if_neg ej, if_neg ej]
      · -- an hour before it
        have hv : ¬ v = wsum S p := by
          intro hv
          obtain ⟨p', x, y⟩ := a5 (by omega)
          have hx := x.2 s s0 s1 sb
          have hps' : p' s = h := by
            have e1 : Tu S p s h s = h := by unfold Tu; rw [if_pos rfl]
            rw [e1] at hx
            omega
          have hl := lex_lt hO x.1 hp s0 s1 sb (fun t t0 ts tb => by
            have := x.2 t t0 (by omega) tb
            have e1 : Tu S p s h t = p t := by unfold Tu Ts; rw [if_neg (by omega), if_pos ⟨ts, tb⟩]
            rw [e1] at this
            have := hp.1 t t0 (by omega) tb
            omega) (by omega)
          have h4 := hmin p' x.1
          rw [pcost_eq, pcost_eq] at h4
          omega
        rw [if_neg hv]
        exact rec_ _ e (fun c d1 d2 => by rw [a2 c d1, wset_far c d2, wset_far c d2]) (fun j hj => by rw [a2 39 (by decide), wset_at, if_neg hj, wset_at, if_neg hj])
termination_by m => m
theorem q_plan_41 {S : Wd} (hO : OK S) {p : Int → Int} (hp : fplan S p) (hmin : ∀ p', fplan S p' → pcost S (com S) p ≤ pcost S (com S) p') (k : Wd → Option (Int × Wd)) : ∀ (m n : Nat) (s : Int) (w : Wd), 0 ≤ s → s + m = S 5 0 → m < n → RM S w → (∀ t : Int, 0 ≤ t → t < S 5 0 → w 39 t.toNat = Ts S p s t) → ∃ w', m_plan_41 (wsum S p) k n s w = k w' ∧ (∀ c, c ≠ 38 → c ≠ 39 → w' c = w c) ∧ (∀ t : Int, 0 ≤ t → t < S 5 0 → w' 39 t.toNat = keepV S p t) ∧ (∀ j : Nat, S 5 0 ≤ (j : Int) → w' 39 j = w 39 j)
  | 0, n, s, w, h0, h1, h2, hM, hT => by
    obtain ⟨n, rfl⟩ : ∃ n', n = n' + 1 := ⟨n - 1, by omega⟩
    have hN := hO.1
    refine ⟨w, ?_, fun c _ _ => rfl, fun t t0 t1 => ?_, fun j _ => rfl⟩
    · rw [m_plan_41, hM.1, wr_id (by omega) (by omega), wr_id (by omega) (by omega), if_pos (by omega)]
    · rw [hT t t0 t1]
      unfold Ts keepV
      cases bth S t
      · simp
      · rw [if_pos ⟨by omega, rfl⟩]; rfl
  | m + 1, n, s, w, h0, h1, h2, hM, hT => by
    obtain ⟨n, rfl⟩ : ∃ n', n = n' + 1 := ⟨n - 1, by omega⟩
    have hN := hO.1
    have hQ := hO.2.1
    have hs := hO.2.2.2.2.2.1 s h0 (by omega)
    unfold OKs at hs
    have z1 := (hM.2.2.2.2.2.2.2.2 s h0 (by omega)).1
    have rs := (hM.2.2.2.2.2.1 s h0 (by omega)).2.2.2.2.2.1
    have f1 : 0 ≤ s ∧ s < 7 := by omega
    have f2 : 0 ≤ 7 * s + 5 ∧ 7 * s + 5 < 49 := by omega
    rw [m_plan_41, hM.1, z1, rs, wr_id (x := S 5 0) (by omega) (by omega), wr_id (x := s) (by omega) (by omega), if_neg (by omega), wr_id (x := S 14 s.toNat) (by omega) (by omega), wr_id (x := -1) (by omega) (by omega)]
    simp only [f1, f2, and_self, if_true]
    by_cases c : S 14 s.toNat = -1
    · have eb : bth S s = false := by simp [bth, c]
      rw [if_pos c]
      exact q_plan_41 hO hp hmin k m n (s + 1) w (by omega) (by omega) (by omega) hM (fun t t0 t1 => by
        rw [hT t t0 t1]
        unfold Ts
        by_cases e : t = s
        · subst e; rw [eb]; simp
        · by_cases e2 : t < s
          · cases bth S t
            · simp
            · rw [if_pos ⟨e2, rfl⟩, if_pos ⟨by omega, rfl⟩]
          · rw [if_neg (by omega), if_neg (by omega)])
    · have eb : bth S s = true := by simp [bth, c]
      rw [if_neg c]
      have hps := hp.1 s h0 (by omega) eb
      have harr := (can_arr hps.2.2).2
      obtain ⟨w1, a1, a2, a3⟩ := q_plan_77 hO hp hmin h0 (show s < S 5 0 by omega) eb (fun w126 => m_plan_41 (wsum S p) k n (s + 1) w126) (p s - S 11 s.toNat).toNat FU (S 11 s.toNat) w (by omega) (by omega) (by have := FU_big; omega) hM (fun t t0 t1 _ => hT t t0 t1)
      obtain ⟨w', b1, b2, b3, b4⟩ := q_plan_41 hO hp hmin k m n (s + 1) w1 (by omega) (by omega) (by omega) (RM_w hM ⟨by rw [a2 26 (by decide) (by decide)], by rw [a2 26 (by decide) (by decide)]⟩ (fun c _ _ => a2 c (by omega) (by omega))) (fun t t0 t1 => by
        rw [a3]
        by_cases e : t = s
        · rw [if_pos (by omega), e]
          unfold Ts
          rw [if_pos ⟨by omega, eb⟩]
        · rw [if_neg (by omega), hT t t0 t1]
          unfold Ts
          by_cases e2 : t < s
          · cases bth S t
            · simp
            · rw [if_pos ⟨e2, rfl⟩, if_pos ⟨by omega, rfl⟩]
          · rw [if_neg (by omega), if_neg (by omega)])
      refine ⟨w', by rw [a1, b1], fun c d1 d2 => by rw [b2 c d1 d2, a2 c d1 d2], b3, fun j hj => by rw [b4 j hj, a3 j, if_neg (by omega)]⟩
theorem q_plan_7 (k : Wd → Option (Int × Wd)) : ∀ (m n : Nat) (s : Int) (w : Wd), 0 ≤ s → s + m = 7 → m < n → ∃ w', m_plan_7 k n s w = k w' ∧ (∀ c, c ≠ 39 → w' c = w c) ∧ (∀ j : Nat, w' 39 j = if s ≤ (j : Int) ∧ (j : Int) < 7 then -1 else w 39 j)
  | 0, n, s, w, h0, h1, h2 => by
    obtain ⟨n, rfl⟩ : ∃ n', n = n' + 1 := ⟨n - 1, by omega⟩
    refine ⟨w, ?_, fun c _ => rfl, fun j => by rw [if_neg (by omega)]⟩
    rw [m_plan_7, wr_id (by omega) (by omega), wr_id (by omega) (by omega), if_pos (by omega)]
  | m + 1, n, s, w, h0, h1, h2 => by
    obtain ⟨n, rfl⟩ : ∃ n', n = n' + 1 := ⟨n - 1, by omega⟩
    obtain ⟨w', a1, a2, a3⟩ := q_plan_7 k m n (s + 1) (wset w 39 s.toNat (-1)) (by omega) (by omega) (by omega)
    refine ⟨w', ?_, fun c hc => by rw [a2 c hc, wset_far c hc], fun j => ?_⟩
    · rw [m_plan_7, wr_id (by omega) (by omega), wr_id (by omega) (by omega), if_neg (by omega), if_pos (by omega), a1]
    · rw [a3 j, wset_at]
      by_cases e : s ≤ (j : Int) ∧ (j : Int) < 7
      · rw [if_pos e]
        by_cases e2 : s + 1 ≤ (j : Int) ∧ (j : Int) < 7
        · rw [if_pos e2]
        · rw [if_neg e2, if_pos (by omega)]
      · rw [if_neg e, if_neg (by omega), if_neg (by omega)]
theorem q_plan_134 {x : Int} : ∀ (m n : Nat) (s : Int) (w : Wd), 0 ≤ s → s + m = 7 → m < n → ∃ w', m_plan_134 x n s w = some (x, w') ∧ (∀ c, c ≠ 34 → w' c = w c) ∧ (∀ j : Nat, w' 34 j = if s ≤ (j : Int) ∧ (j : Int) < 7 then w 39 j else w 34 j)
  | 0, n, s, w, h0, h1, h2 => by
    obtain ⟨n, rfl⟩ : ∃ n', n = n' + 1 := ⟨n - 1, by omega⟩
    refine ⟨w, ?_, fun c _ => rfl, fun j => by rw [if_neg (by omega)]⟩
    rw [m_plan_134, wr_id (by omega) (by omega), wr_id (by omega) (by omega), if_pos (by omega)]
  | m + 1, n, s, w, h0, h1, h2 => by
    obtain ⟨n, rfl⟩ : ∃ n', n = n' + 1 := ⟨n - 1, by omega⟩
    obtain ⟨w', a1, a2, a3⟩ := q_plan_134 (x := x) m n (s + 1) (wset w 34 s.toNat (w 39 s.toNat)) (by omega) (by omega) (by omega)
    refine ⟨w', ?_, fun c hc => by rw [a2 c hc, wset_far c hc], fun j => ?_⟩
    · rw [m_plan_134, wr_id (by omega) (by omega), wr_id (by omega) (by omega), if_neg (by omega), if_pos (by omega), if_pos (by omega), a1]
    · rw [a3 j, wset_at, wset_far 39 (by decide)]
      by_cases e : s ≤ (j : Int) ∧ (j : Int) < 7
      · rw [if_pos e]
        by_cases e2 : s + 1 ≤ (j : Int) ∧ (j : Int) < 7
        · rw [if_pos e2]
        · rw [if_neg e2, if_pos (by omega), show s.toNat = j by omega]
      · rw [if_neg e, if_neg (by omega), if_neg (by omega)]
theorem Rel_15 {w w' : Wd} (h : Rel w) {p : Int → Int} (hp : fplan w p) (ho : ∀ c, 2 ≤ c → c ≤ 21 → c ≠ 15 → w' c = w c) (h15 : ∀ k : Nat, w' 15 k = if (k : Int) < w 5 0 then keepV w p k else w 15 k) (hm : ∀ c, 27 ≤ c → c ≤ 34 → c ≠ 34 → w' c = w c) (h26 : w' 26 4 = w 26 4 ∧ w' 26 6 = w 26 6) (h34 : ∀ s : Int, 0 ≤ s → s < 7 → w' 34 s.toNat = if s < w 5 0 then keepV w p s else -1) : Rel w' := by
  have k1 : ∀ s : Int, 0 ≤ s → s < w 5 0 → -1 ≤ keepV w p s ∧ keepV w p s ≤ 119 := fun s s0 s1 => by
    unfold keepV
    cases hb : bth w s
    · simp
    · have := hp.1 s s0 s1 hb
      simp
      omega
  have e15 : ∀ s : Int, 0 ≤ s → w' 15 s.toNat = if s < w 5 0 then keepV w p s else w 15 s.toNat := fun s s0 => by rw [h15, Int.toNat_of_nonneg s0]
  refine ⟨?_, ?_⟩
  · have hO := h.1
    unfold OK OKs OKq OKe foul at hO ⊢
    obtain ⟨c1, c2, c3, c4, c5, c6, c7, c8, c9⟩ := hO
    simp (disch := omega) only [ho]
    refine ⟨c1, c2, c3, c4, c5, ?_, c7, c8, c9⟩
    intro s s0 s1
    have := c6 s s0 s1
    rw [e15 s s0]
    by_cases e : s < w 5 0
    · have := k1 s s0 e
      rw [if_pos e]
      omega
    · rw [if_neg e]; exact this
  · obtain ⟨r1, r2, r3, r4, r5, r6, r7, r8, r9⟩ := h.2
    unfold RM RMs RMq foul
    unfold RMs at r6
    unfold RMq at r7
    unfold foul at r8
    rw [h26.1, h26.2]
    simp (disch := omega) only [ho, hm]
    refine ⟨r1, r2, r3, r4, r5, r6, r7, r8, fun s s0 s1 => ⟨(r9 s s0 s1).1, ?_⟩⟩
    rw [h34 s s0 s1, e15 s s0]
    by_cases e : s < w 5 0
    · rw [if_pos e, if_pos e]
    · rw [if_neg e, if_neg e]
      exact (((h.1.2.2.2.2.2.1 s s0 s1).2.2.2.2.2.2.2.2.2.2 (by omega)).2).symm
theorem a_plan {w : Wd} (h : Rel w) : Agree x_plan m_plan w := by
  have hO := h.1
  have hN := hO.1
  have hn := nS_i hO
  have hn7 := nS_le hO
  have model : ∀ w1 : Wd, (∀ c, c ≠ 15 → c ≠ 22 → c ≠ 25 → w1 c = w c) → ∃ w2 v w3, (∀ K : Wd → Option (Int × Wd), m_plan_7 K FU 0 (wset w1 26 10 0) = K w2) ∧ m_sumOf w2 = some (v, w3) ∧ (∀ c, c ≠ 39 → w2 c = wset w1 26 10 0 c) ∧ (∀ c, c ≠ 38 → w3 c = w2 c) ∧ (∀ j : Nat, w2 39 j = if (0 : Int) ≤ (j : Int) ∧ (j : Int) < 7 then -1 else wset w1 26 10 0 39 j) ∧ RM w w3 ∧ (0 ≤ v ∧ v ≤ 268435456) ∧ (∀ p, fplan w p → v ≤ wsum w p) ∧ (v < 268435456 → ∃ p, fplan w p ∧ v = wsum w p) := by
    intro w1 h1
    have hT : RM w (wset w1 26 10 0) := RM_w h.2 ⟨by show w1 26 4 = w 26 4; rw [h1 26 (by decide) (by decide) (by decide)], by show w1 26 6 = w 26 6; rw [h1 26 (by decide) (by decide) (by decide)]⟩ (fun c x y => by rw [wset_far c (by omega), h1 c (by omega) (by omega) (by omega)])
    obtain ⟨w2, a1, a2, a3⟩ := q_plan_7 (fun w => some (0, w)) 7 FU 0 (wset w1 26 10 0) (by omega) (by omega) (by have := FU_big; omega)
    have a1' : ∀ K : Wd → Option (Int × Wd), m_plan_7 K FU 0 (wset w1 26 10 0) = K w2 := fun K => by
      obtain ⟨w2', b1, b2, b3⟩ := q_plan_7 K 7 FU 0 (wset w1 26 10 0) (by omega) (by omega) (by have := FU_big; omega)
      have : w2' = w2 := by
        funext c
        by_cases e : c = 39
        · subst e; funext j; rw [b3, a3]
        · rw [b2 c e, a2 c e]
      rw [b1, this]
    have hM2 : RM w w2 := RM_w hT ⟨by rw [a2 26 (by decide)], by rw [a2 26 (by decide)]⟩ (fun c _ _ => a2 c (by omega))
    obtain ⟨v, w3, c1, c2, c3, c4, c5⟩ := q_sumOf hO hM2 (T := fun _ => -1) (fun s s0 s1 => ⟨by rw [a3, if_pos (by omega)], Int.le_refl _, (by decide : (-1 : Int) < 120)⟩)
    refine ⟨w2, v, w3, a1', c1, a2, c2, a3, RM_w hM2 ⟨by rw [c2 26 (by decide)], by rw [c2 26 (by decide)]⟩ (fun c _ _ => c2 c (by omega)), c3, fun p hp => c4 p ⟨hp, fun s _ _ _ => Or.inl rfl⟩, fun z => ?_⟩
    obtain ⟨p, x, y⟩ := c5 z
    exact ⟨p, x.1, y⟩
  rcases p_plan hO with ⟨w1, a1, a2, a3⟩ | ⟨w1, p, a1, a2, a3, a4, a5⟩
  · obtain ⟨w2, v, w3, b1, b2, b3, b4, b5, b6, b7, b8, b9⟩ := model w1 (fun c _ d1 d2 => a2 c d1 d2)
    have hv : v = 268435456 := by
      apply Classical.byContradiction
      intro hv
      obtain ⟨p, x, _⟩ := b9 (by omega)
      exact a3 p x
    refine ⟨-1, w1, w3, a1, ?_, Rel_far h (fun c x y => by rw [b4 c (by omega), b3 c (by omega), wset_far c (by omega), a2 c (by omega) (by omega)]) (fun c x y => by rw [b4 c (by omega), b3 c (by omega), wset_far c (by omega), a2 c (by omega) (by omega)]) ⟨by rw [b4 26 (by decide), b3 26 (by decide), wset_at, if_neg (by decide), a2 26 (by decide) (by decide)], by rw [b4 26 (by decide), b3 26 (by decide), wset_at, if_neg (by decide), a2 26 (by decide) (by decide)]⟩⟩
    unfold m_plan
    rw [b1, b2]
    simp only [Option.bind_some]
    rw [hv, if_neg (by rw [wr_id (by omega) (by omega)]; omega)]
  · obtain ⟨w2, v, w3, b1, b2, b3, b4, b5, b6, b7, b8, b9⟩ := model w1 a2
    have hw := wsum_bd hO a4
    have hv : v = wsum w p := by
      have h1 := b8 p a4
      obtain ⟨p', x, y⟩ := b9 (by omega)
      have h4 := a5 p' x
      rw [pcost_eq, pcost_eq] at h4
      have h5 := hnum_bd hO a4
      have h6 := hnum_bd hO x
      omega
    have e39 : ∀ j : Nat, w3 39 j = if (0 : Int) ≤ (j : Int) ∧ (j : Int) < 7 then -1 else wset w1 26 10 0 39 j := fun j => by rw [b4 39 (by decide), b5]
    obtain ⟨w4, c1, c2, c3, c4⟩ := q_plan_41 hO a4 a5 (fun w132 => m_plan_134 (wsum w p) FU 0 w132) (nS w) FU 0 w3 (by omega) (by omega) (by have := FU_big; omega) b6 (fun t t0 t1 => by
      rw [e39, if_pos (by omega)]
      unfold Ts
      rw [if_neg (by omega)])
    obtain ⟨w5, d1, d2, d3⟩ := q_plan_134 (x := wsum w p) 7 FU 0 w4 (by omega) (by omega) (by have := FU_big; omega)
    have far : ∀ c, c ≠ 15 → c ≠ 22 → c ≠ 25 → c ≠ 26 → c ≠ 34 → c ≠ 38 → c ≠ 39 → w5 c = w c := fun c e1 e2 e3 e4 e5 e6 e7 => by rw [d2 c e5, c2 c e6 e7, b4 c e6, b3 c e7, wset_far c e4, a2 c e1 e2 e3]
    have e26 : ∀ i, i ≠ 10 → w5 26 i = w 26 i := fun i hi => by rw [d2 26 (by decide), c2 26 (by decide) (by decide), b4 26 (by decide), b3 26 (by decide), wset_at, if_neg hi, a2 26 (by decide) (by decide) (by decide)]
    refine ⟨wsum w p, w1, w5, a1, ?_, Rel_15 h a4 (fun c x y z => far c z (by omega) (by omega) (by omega) (by omega) (by omega) (by omega)) (fun k => by rw [d2 15 (by decide), c2 15 (by decide) (by decide), b4 15 (by decide), b3 15 (by decide), wset_far 15 (by decide), a3]) (fun c x y z => far c (by omega) (by omega) (by omega) (by omega) z (by omega) (by omega)) ⟨e26 4 (by decide), e26 6 (by decide)⟩ (fun s s0 s1 => ?_)⟩
    · unfold m_plan
      rw [b1, b2]
      simp only [Option.bind_some]
      rw [if_pos (by rw [wr_id (by omega) (by omega), wr_id (by omega) (by omega)]; omega), hv, c1, d1]
    · rw [d3, if_pos (by omega)]
      by_cases e : s < w 5 0
      · rw [if_pos e]; exact c3 s s0 e
      · rw [if_neg e, c4 _ (by omega), e39, if_pos (by omega)]

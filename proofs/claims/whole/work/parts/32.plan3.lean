/-! The class's plan, to its end. -/
theorem toNat_succ_gt (x : Int) : x < ((x.toNat + 1 : Nat) : Int) := by omega
def Ecnt (S : Wd) : Int := cnt (bth S) (nS S)
theorem Ecnt_bd {S : Wd} (hO : OK S) : 0 ≤ Ecnt S ∧ Ecnt S ≤ 7 := by
  have := cnt_bd (bth S) (nS S)
  have := nS_le hO
  unfold Ecnt
  omega
theorem rdy_mask {S : Wd} (E h : Int) (t : Nat) (ht : t < nS S) : (maskI (rdy S E h) (nS S) 0).testBit t = rdy S E h t := by
  show (maskI _ (nS S) ((0 : Nat) : Int)).testBit t = _
  rw [maskI_bit, decide_eq_true (by omega), Bool.true_and]
theorem p_readyAt {S : Wd} (hO : OK S) {h : Int} (h0 : 0 ≤ h) (h1 : h < 120) {w : Wd} (g4 : ∀ c, 2 ≤ c → c ≤ 21 → w c = S c) (g5 : ∀ t : Nat, t < nS S → bth S t = true → w 25 t = chE S (Ecnt S) t h) : ∃ w', x_readyAt h ((com S : Nat) : Int) w = some (((maskI (rdy S (Ecnt S) h) (nS S) 0 : Nat) : Int), w') ∧ (∀ c, c ≠ 25 → w' c = w c) ∧ (∀ t : Nat, t < nS S → bth S t = true → w' 25 t = chE S (Ecnt S) t (h + 1)) := by
  have hN := hO.1
  have hn := nS_i hO
  have hn7 := nS_le hO
  obtain ⟨w', b1, b2, b3⟩ := p_ready_11 hO (Ecnt_bd hO) h0 h1 (nS S) FU 0 0 w (by omega) (by have := FU_big; omega) (by decide) g4 (fun t ht hb => by rw [if_neg (by omega)]; exact g5 t ht hb)
  refine ⟨w', ?_, b2, b3⟩
  unfold x_readyAt
  rw [p_bitCount (com_lt hO)]
  simp only [Option.bind_some]
  rw [show pop (com S) = Ecnt S from pop_mask _ hn7]
  rw [Nat.zero_add] at b1
  exact b1
def NSok (S : Wd) (F : Nat → Int) : Prop := ∀ A, A < 128 → ¬ (A &&& com S = A) → F A = -1
theorem F_bd {S : Wd} (hO : OK S) {E h : Int} (hh : h ≤ 120) {F : Nat → Int} (h1 : PDok S E h F) (h2 : NSok S F) : ∀ A, A < 128 → -1 ≤ F A ∧ F A ≤ 500000000000000000 := by
  intro A hA
  by_cases c : A &&& com S = A
  · by_cases d : F A = -1
    · omega
    · obtain ⟨p, a, b⟩ := (h1 A c).2 d
      have := pcost_bd hO hh a
      omega
  · rw [h2 A hA c]; omega
theorem not_sub {S : Wd} {A t : Nat} (h : ¬ (A &&& com S = A)) (ht : A.testBit t = true) (hc : (com S).testBit t = true) : ¬ ((A ^^^ 2 ^ t) &&& com S = (A ^^^ 2 ^ t)) := by
  intro e
  apply h
  apply Nat.eq_of_testBit_eq
  intro i
  rw [Nat.testBit_and]
  cases hx : A.testBit i
  · rfl
  · by_cases ei : t = i
    · subst ei; rw [hc]; rfl
    · have : (A ^^^ 2 ^ t).testBit i = true := by rw [xor_bit (pow_sub ht), hx, Nat.testBit_two_pow, decide_eq_false ei]; rfl
      rw [sub_bit e i this]
      rfl
theorem p_leastPlan_27 {S : Wd} (hO : OK S) : ∀ (m n : Nat) (h : Int) (w : Wd), 0 ≤ h → h + m = 120 → m < n → (∀ c, 2 ≤ c → c ≤ 21 → w c = S c) → (∀ t : Nat, t < nS S → bth S t = true → w 25 t = chE S (Ecnt S) t h) → PDok S (Ecnt S) h (w 22) → NSok S (w 22) → ∃ w', x_leastPlan_27 ((com S : Nat) : Int) n h w = some (w' 22 (com S), w') ∧ (∀ c, c ≠ 22 → c ≠ 25 → w' c = w c) ∧ PDok S (Ecnt S) 120 (w' 22)
  | 0, n, h, w, h0, h1, h2, g4, g5, g6, g7 => by
    obtain ⟨n, rfl⟩ : ∃ n', n = n' + 1 := ⟨n - 1, by omega⟩
    have hlt := com_lt hO
    refine ⟨w, ?_, fun c _ _ => rfl, by rw [show (120 : Int) = h by omega]; exact g6⟩
    rw [x_leastPlan_27, wr_id (by omega) (by omega), wr_id (by omega) (by omega), if_pos (by omega), if_pos (by omega), Int.toNat_natCast]
  | m + 1, n, h, w, h0, h1, h2, g4, g5, g6, g7 => by
    obtain ⟨n, rfl⟩ : ∃ n', n = n' + 1 := ⟨n - 1, by omega⟩
    have hN := hO.1
    have hn := nS_i hO
    have hn7 := nS_le hO
    have hlt := com_lt hO
    obtain ⟨w1, a1, a2, a3⟩ := p_readyAt hO h0 (show h < 120 by omega) g4 g5
    have hRlt := mask128 (rdy S (Ecnt S) h) hn7
    have hRb := rdy_mask (S := S) (Ecnt S) h
    generalize maskI (rdy S (Ecnt S) h) (nS S) 0 = Rm at a1 hRlt hRb
    have e22 : w1 22 = w 22 := a2 22 (by decide)
    have gg4 : ∀ c, 2 ≤ c → c ≤ 21 → w1 c = S c := fun c x y => by rw [a2 c (by omega)]; exact g4 c x y
    rw [x_leastPlan_27, wr_id (x := 120) (by omega) (by omega), wr_id (x := h) (by omega) (by omega), if_neg (by omega), a1]
    simp only [Option.bind_some]
    rw [wr_id (x := (Rm : Int)) (by omega) (by omega)]
    by_cases c : (Rm : Int) = 0
    · rw [if_pos c]
      have hR0 : Rm = 0 := by omega
      have hP : PDok S (Ecnt S) (h + 1) (w1 22) := PD_step hO h0 hRb g6 (by rw [e22]) (fun A a b => ⟨fun z => ⟨by rw [e22]; exact z, by rw [e22]; exact Int.le_refl _⟩, fun t _ _ _ z => (by rw [hR0, Nat.zero_testBit] at z; cases z), Or.inl (by rw [e22])⟩)
      obtain ⟨w', b1, b2, b3⟩ := p_leastPlan_27 hO m n (h + 1) w1 (by omega) (by omega) (by omega) gg4 a3 hP (by rw [e22]; exact g7)
      exact ⟨w', b1, fun c c1 c2 => by rw [b2 c c1 c2, a2 c c2], b3⟩
    · rw [if_neg c]
      obtain ⟨w2, b1, b2, b3, b4, b5⟩ := p_offH_3 hO (h := h) (by omega) hRlt (fun t ht hb => by
        rw [hRb t ht] at hb
        unfold rdy at hb
        rw [Bool.and_eq_true] at hb
        exact (can_arr hb.1).2) (O := w 22) (F_bd hO (by omega) g6 g7) (com S) FU w1 hlt (by have := FU_big; omega) gg4 (fun P _ => by rw [e22])
      have hP : PDok S (Ecnt S) (h + 1) (w2 22) := PD_step hO h0 hRb g6 (by rw [b3, e22]) b4
      have hNS : NSok S (w2 22) := by
        intro A hA hns
        by_cases cA : A ≤ com S
        · have hA0 : 0 < A := by
            rcases Nat.eq_zero_or_pos A with e | e
            · subst e; exact absurd (Nat.zero_and _) hns
            · exact e
          rcases (b4 A hA0 cA).2.2 with e | ⟨t, _, t1, tA, tR, tO, _⟩
          · rw [e]; exact g7 A hA hns
          · exfalso
            apply tO
            have hbt : (com S).testBit t = true := by
              rw [com_bit, decide_eq_true t1]
              rw [hRb t t1] at tR
              unfold rdy at tR
              rw [Bool.and_eq_true] at tR
              rw [(can_arr tR.1).1]; rfl
            have hx := sub_xor hA (pow_sub tA)
            have hpp := Nat.two_pow_pos t
            exact g7 _ (by omega) (not_sub hns tA hbt)
        · rw [b5 A (by omega), e22]; exact g7 A hA hns
      obtain ⟨w', d1, d2, d3⟩ := p_leastPlan_27 hO m n (h + 1) w2 (by omega) (by omega) (by omega) (fun c x y => by rw [b2 c (by omega)]; exact gg4 c x y) (fun t ht hb => by rw [b2 25 (by decide)]; exact a3 t ht hb) hP hNS
      refine ⟨w', ?_, fun c c1 c2 => by rw [d2 c c1 c2, b2 c c1, a2 c c2], d3⟩
      unfold x_offerHour
      rw [b1]
      simp only [Option.bind_some]
      exact d1
theorem p_leastPlan {S : Wd} (hO : OK S) : ∃ w', x_leastPlan ((com S : Nat) : Int) S = some (w' 22 (com S), w') ∧ (∀ c, c ≠ 22 → c ≠ 25 → w' c = S c) ∧ PDok S (Ecnt S) 120 (w' 22) := by
  have hn7 := nS_le hO
  obtain ⟨w1, a1, a2, a3⟩ := p_fillL_6 (c1 := 22) (l1 := 128) (v := -1) (by omega) 128 FU 0 S (by omega) (by omega) (by have := FU_big; omega)
  obtain ⟨w2, b1, b2, b3⟩ := p_fillI_5 (c1 := 25) (l1 := 7) (v := 0) (by omega) 7 FU 0 (wset w1 22 0 0) (by omega) (by omega) (by have := FU_big; omega)
  have e22 : ∀ A, w2 22 A = if A = 0 then 0 else w1 22 A := fun A => by rw [b2 22 (by decide), wset_at]
  have F0 : w2 22 0 = 0 := by rw [e22, if_pos rfl]
  have F1 : ∀ A, 0 < A → A < 128 → w2 22 A = -1 := fun A x y => by rw [e22, if_neg (by omega), a3 A, if_pos (by omega)]
  obtain ⟨w', c1, c2, c3⟩ := p_leastPlan_27 hO 120 FU 0 w2 (by omega) (by omega) (by have := FU_big; omega) (fun c x y => by rw [b2 c (by omega), wset_far c (by omega), a2 c (by omega)]) (fun t ht _ => by
    rw [b3 t, if_pos (by omega)]
    unfold chE
    have : cbf S t 0 = 0 := rfl
    have := Ecnt_bd hO
    split <;> omega) (PD_base hO F0 F1) (fun A hA hns => by
    refine F1 A ?_ hA
    rcases Nat.eq_zero_or_pos A with e | e
    · subst e; exact absurd (Nat.zero_and _) hns
    · exact e)
  refine ⟨w', ?_, fun c d1 d2 => by rw [c2 c d1 d2, b2 c d2, wset_far c d1, a2 c d1], c3⟩
  unfold x_leastPlan ja_fillL ja_fillI
  rw [a1]
  simp only [Option.bind_some]
  rw [b1]
  simp only [Option.bind_some]
  exact c1
/-! any plan may be had with hours that the class looks at -/
def fplan (S : Wd) (p : Int → Int) : Prop := (∀ s : Int, 0 ≤ s → s < S 5 0 → bth S s = true → 0 ≤ p s ∧ p s < 120 ∧ can S s (p s) = true) ∧ (∀ s t : Int, 0 ≤ s → s < S 5 0 → 0 ≤ t → t < S 5 0 → bth S s = true → bth S t = true → p s = p t → s = t)
theorem anyI_last (p : Int → Bool) (m : Nat) (i : Int) : anyI p (m + 1) i = (anyI p m i || p (i + m)) := by
  cases h : anyI p (m + 1) i
  · symm
    rw [Bool.or_eq_false_iff]
    have hn : ¬ ∃ k, i ≤ k ∧ k < i + ((m + 1 : Nat) : Int) ∧ p k = true := by rw [← anyI_iff, h]; decide
    refine ⟨?_, ?_⟩
    · rw [← Bool.not_eq_true, anyI_iff]
      rintro ⟨k, a, b, c⟩
      exact hn ⟨k, a, by omega, c⟩
    · rw [← Bool.not_eq_true]
      intro c
      exact hn ⟨i + m, by omega, by omega, c⟩
  · symm
    obtain ⟨k, a, b, c⟩ := (anyI_iff _ _ _).mp h
    rw [Bool.or_eq_true]
    by_cases e : k = i + m
    · rw [e] at c; exact Or.inr c
    · exact Or.inl ((anyI_iff _ _ _).mpr ⟨k, a, by omega, c⟩)
theorem used_le (q : Int → Bool) (p : Int → Int) (K : Nat) : ∀ N : Nat, cnt (fun h => anyI (fun t => q t && decide (p t = h)) N 0) K ≤ cnt q N
  | 0 => by
    have e0 : cnt (fun h => anyI (fun t => q t && decide (p t = h)) 0 0) K = 0 := cnt_0 (fun k _ _ => rfl)
    rw [e0]
    exact (cnt_bd q 0).1
  | N + 1 => by
    have ih := used_le q p K N
    have e1 : cnt q (N + 1) = cnt q N + bz (q N) := by
      unfold cnt
      rw [sumI_last, Int.zero_add]
    have e2 : cnt (fun h => anyI (fun t => q t && decide (p t = h)) (N + 1) 0) K ≤ cnt (fun h => anyI (fun t => q t && decide (p t = h)) N 0) K + cnt (fun h => q N && decide (p N = h)) K := by
      unfold cnt
      rw [← sumI_add]
      refine sumI_le K 0 (fun k _ _ => ?_)
      dsimp only
      rw [anyI_last, Int.zero_add]
      cases anyI (fun t => q t && decide (p t = k)) N 0 <;> cases (q N && decide (p N = k)) <;> decide
    have e3 : cnt (fun h => q N && decide (p N = h)) K ≤ bz (q N) := by
      cases hq : q N
      · have e0 : cnt (fun h => false && decide (p N = h)) K = 0 := cnt_0 (fun k _ _ => rfl)
        rw [e0]; decide
      · exact sumI_one K 0 (fun j k _ _ _ _ hj hk => by
          simp only [Bool.true_and, decide_eq_true_eq] at hj hk
          omega)
    omega
theorem hcost_lt {S : Wd} {s a b : Int} (s0 : 0 ≤ s) (s1 : s < 7) (h : a < b) : hcost S s a < hcost S s b := by
  have hw1 := hw_bd s0 s1
  have : a * hw s ≤ b * hw s := Int.mul_le_mul_of_nonneg_right (by omega) (by omega)
  unfold hcost
  omega
theorem prune {S : Wd} (hO : OK S) : ∀ (f : Nat) (p : Int → Int), fplan S p → sumI (fun s => if bth S s then p s else 0) (nS S) 0 < f → ∃ p', planP S (Ecnt S) 120 (com S) p' ∧ pcost S (com S) p' ≤ pcost S (com S) p
  | 0, p, hp, hf => by
    have hn := nS_i hO
    have := sumI_bd (f := fun s => if bth S s then p s else 0) (lo := 0) (hi := 120) (nS S) 0 (fun k a b => by
      cases hb : bth S k
      · simp
      · have := hp.1 k a (by omega) hb
        simp
        omega)
    omega
  | f + 1, p, hp, hf => by
    have hN := hO.1
    have hn := nS_i hO
    have hn7 := nS_le hO
    have inC : ∀ s : Int, 0 ≤ s → (com S).testBit s.toNat = true → s < S 5 0 ∧ bth S s = true := fun s s0 c => by
      rw [com_bit, Bool.and_eq_true, decide_eq_true_eq, Int.toNat_of_nonneg s0] at c
      exact ⟨by omega, c.2⟩
    by_cases ex : ∃ s : Int, 0 ≤ s ∧ s < S 5 0 ∧ bth S s = true ∧ Ecnt S ≤ cbf S s (p s)
    · obtain ⟨s, s0, s1, sb, sE⟩ := ex
      have hps := hp.1 s s0 s1 sb
      -- an hour before that is free
      have hfree : ∃ h' : Int, 0 ≤ h' ∧ h' < (p s).toNat ∧ (can S s h' && !anyI (fun t => (bth S t && decide (t ≠ s)) && decide (p t = h')) (nS S) 0) = true := by
        apply cnt_pos
        have h1 := used_le (fun t => bth S t && decide (t ≠ s)) p (p s).toNat (nS S)
        have h2 : cnt (fun t => bth S t && decide (t ≠ s)) (nS S) < Ecnt S := cnt_lt (fun k _ _ hk => by rw [Bool.and_eq_true] at hk; exact hk.1) s0 (by omega) (by rw [decide_eq_false (by simp), Bool.and_false]) sb
        have h3 := cnt_and (p := fun k => can S s k) (q := fun k => anyI (fun t => (bth S t && decide (t ≠ s)) && decide (p t = k)) (nS S) 0) (n := (p s).toNat)
        have h4 : cnt (fun k => can S s k && anyI (fun t => (bth S t && decide (t ≠ s)) && decide (p t = k)) (nS S) 0) (p s).toNat ≤ cnt (fun h => anyI (fun t => (bth S t && decide (t ≠ s)) && decide (p t = h)) (nS S) 0) (p s).toNat := cnt_le (fun k _ _ hk => by rw [Bool.and_eq_true] at hk; exact hk.2)
        unfold cbf at sE
        omega
      obtain ⟨h', a0, a1, a2⟩ := hfree
      rw [Bool.and_eq_true, Bool.not_eq_true'] at a2
      have hun : ∀ t : Int, 0 ≤ t → t < S 5 0 → bth S t = true → t ≠ s → p t ≠ h' := by
        intro t t0 t1 tb te e
        have : anyI (fun t => (bth S t && decide (t ≠ s)) && decide (p t = h')) (nS S) 0 = true := (anyI_iff _ _ _).mpr ⟨t, t0, by omega, by rw [tb, decide_eq_true te, decide_eq_true e]; rfl⟩
        rw [a2.2] at this
        cases this
      have hp1 : fplan S (fun t => if t = s then h' else p t) := by
        refine ⟨fun t t0 t1 tb => ?_, fun t u t0 t1 u0 u1 tb ub e => ?_⟩
        · dsimp only
          by_cases e : t = s
          · rw [if_pos e, e]; exact ⟨a0, by omega, a2.1⟩
          · rw [if_neg e]; exact hp.1 t t0 t1 tb
        · dsimp only at e
          by_cases e1 : t = s
          · by_cases e2 : u = s
            · omega
            · rw [if_pos e1, if_neg e2] at e
              exact absurd e.symm (hun u u0 u1 ub e2)
          · by_cases e2 : u = s
            · rw [if_neg e1, if_pos e2] at e
              exact absurd e (hun t t0 t1 tb e1)
            · rw [if_neg e1, if_neg e2] at e
              exact hp.2 t u t0 t1 u0 u1 tb ub e
      have hlt : sumI (fun t => if bth S t then (if t = s then h' else p t) else 0) (nS S) 0 < sumI (fun t => if bth S t then p t else 0) (nS S) 0 := by
        refine sumI_lt (nS S) 0 (fun k _ _ => ?_) ⟨s, s0, by omega, ?_⟩
        · by_cases e : k = s
          · subst e; rw [if_pos rfl]; split <;> omega
          · rw [if_neg e]; exact Int.le_refl _
        · rw [if_pos rfl, sb]
          simp
          omega
      obtain ⟨p', b1, b2⟩ := prune hO f (fun t => if t = s then h' else p t) hp1 (by omega)
      refine ⟨p', b1, Int.le_trans b2 ?_⟩
      unfold pcost ssum
      refine sumI_le (nS S) 0 (fun k k0 k1 => ?_)
      dsimp only
      by_cases e : k = s
      · subst e
        rw [if_pos rfl]
        have := hcost_lt (S := S) s0 (show k < 7 by omega) (show h' < p k by omega)
        split <;> omega
      · rw [if_neg e]; exact Int.le_refl _
    · refine ⟨p, ⟨fun s s0 s1 c => ?_, fun s t s0 s1 t0 t1 c1 c2 e => hp.2 s t s0 s1 t0 t1 (inC s s0 c1).2 (inC t t0 c2).2 e⟩, Int.le_refl _⟩
      have hb := (inC s s0 c).2
      have h1 := hp.1 s s0 s1 hb
      refine ⟨h1.1, h1.2.1, ?_⟩
      unfold rdy
      rw [h1.2.2, decide_eq_true]
      · rfl
      · apply Classical.byContradiction
        intro hc
        exact ex ⟨s, s0, s1, hb, by omega⟩
theorem plan_f {S : Wd} (hO : OK S) {E : Int} {p : Int → Int} (hp : planP S E 120 (com S) p) : fplan S p := by
  have hn := nS_i hO
  have inC : ∀ s : Int, 0 ≤ s → s < S 5 0 → bth S s = true → (com S).testBit s.toNat = true := fun s s0 s1 sb => by
    rw [com_bit, decide_eq_true (show s.toNat < nS S by omega), Int.toNat_of_nonneg s0, sb]; rfl
  refine ⟨fun s s0 s1 sb => ?_, fun s t s0 s1 t0 t1 sb tb e => hp.2 s t s0 s1 t0 t1 (inC s s0 s1 sb) (inC t t0 t1 tb) e⟩
  have h1 := hp.1 s s0 s1 (inC s s0 s1 sb)
  have h2 := h1.2.2
  unfold rdy at h2
  rw [Bool.and_eq_true] at h2
  exact ⟨h1.1, h1.2.1, h2.1⟩
/-- the least plan of the class: none, or one that is least among all -/
theorem p_leastPlan2 {S : Wd} (hO : OK S) : ∃ v w', x_leastPlan ((com S : Nat) : Int) S = some (v, w') ∧ (∀ c, c ≠ 22 → c ≠ 25 → w' c = S c) ∧ ((v = -1 ∧ ∀ p, ¬ fplan S p) ∨ (∃ p, fplan S p ∧ v = pcost S (com S) p ∧ ∀ p', fplan S p' → v ≤ pcost S (com S) p')) := by
  obtain ⟨w', a1, a2, a3⟩ := p_leastPlan hO
  refine ⟨w' 22 (com S), w', a1, a2, ?_⟩
  have hF := a3 (com S) (Nat.and_self _)
  by_cases c : w' 22 (com S) = -1
  · refine Or.inl ⟨c, fun p hp => ?_⟩
    obtain ⟨p', b1, b2⟩ := prune hO _ p hp (toNat_succ_gt _)
    exact (hF.1 p' b1).1 c
  · obtain ⟨p, b1, b2⟩ := hF.2 c
    refine Or.inr ⟨p, plan_f hO b1, b2, fun p' hp' => ?_⟩
    obtain ⟨p2, d1, d2⟩ := prune hO _ p' hp' (toNat_succ_gt _)
    have := (hF.1 p2 d1).2
    omega

/-! best and mend agree. -/
theorem none_good {S : Wd} (hO : OK S) : goodR S (fun _ => -1) := by
  have hQ := hO.2.1
  refine ⟨fun s _ _ h => absurd rfl h, fun s t _ _ _ h => absurd rfl h, fun q q0 q1 => ?_⟩
  have hq := (hO.2.2.2.2.2.2.1 q q0 (by omega)).1
  unfold roomOf
  rw [roomGo_0, sumI_zero (nS S) 0 (fun k _ _ => by rw [if_neg (by omega)])]
  have : 0 ≤ (if anyI (fun _ => decide ((-1 : Int) = q)) (nS S) 0 = true then S 4 3 else 0) := by
    have := hO.2.2.2.2.1.2.2.2.1
    split <;> omega
  omega
theorem q_search {S w : Wd} (hO : OK S) (hM : RM S w) {near : Bool} : ∃ w' j, m_search (bz near) w = some (0, w') ∧ (∀ c, c ≠ 35 → c ≠ 36 → c ≠ 37 → w' c = w c) ∧ j < (nQ S + 1) ^ nS S ∧ goodR S (rk S j) ∧ (∀ s : Int, 0 ≤ s → s < S 5 0 → w' 36 s.toNat = rk S j s) ∧ ∀ i, i < (nQ S + 1) ^ nS S → goodR S (rk S i) → Kle S near j i := by
  have hN := hO.1
  have hQ := hO.2.1
  have hn := nS_i hO
  have hq := nQ_i hO
  have hn7 := nS_le hO
  have hq4 := nQ_le hO
  have hall : (nQ S + 1) ^ nS S ≤ 100000 := by
    have h1 : (nQ S + 1) ^ nS S ≤ 5 ^ nS S := Nat.pow_le_pow_left (by omega) _
    have h2 : 5 ^ nS S ≤ 5 ^ 7 := Nat.pow_le_pow_right (by omega) hn7
    omega
  have hin : inR S (fun _ => -1) := fun s _ _ => ⟨Int.le_refl _, by show (-1 : Int) < S 16 0; omega⟩
  have hex : ∃ i, i < (nQ S + 1) ^ nS S ∧ goodR S (rk S i) := ⟨idx S (fun _ => -1), idx_lt hO hin, goodR_cg hO (fun s a b => (rk_idx hO hin a b).symm) (none_good hO)⟩
  obtain ⟨w1, a1, a2, a3⟩ := q_search_2 hO (x1 := bz near) (fun (w56 : Wd) => (m_search_60 (bz near) (fun (e83_2 : Int) (w83 : Wd) => (m_search_97 (bz near) e83_2 FU 0 0 0 0 0 w83)) FU 1 0 w56)) (nS S) FU 0 w (by omega) (by omega) (by have := FU_big; omega) hM (fun t q a b => by omega)
  have hM1 : RM S w1 := RM_w hM ⟨by rw [a2 26 (by decide)], by rw [a2 26 (by decide)]⟩ (fun c _ _ => a2 c (by omega))
  obtain ⟨w', j, b1, b2, b3⟩ := q_search_97 hO (near := near) hall hex ((nQ S + 1) ^ nS S) FU 0 0 0 0 0 w1 (by omega) (by have := FU_big; omega) hM1 a3 (Or.inl ⟨rfl, fun i hi => by omega⟩)
  refine ⟨w', j, ?_, fun c c1 c2 c3 => by rw [b2 c c1 c2, a2 c c3], b3⟩
  unfold m_search
  rw [a1, q_search_60 hO hM1 _ (nS S) FU 1 0 (by omega) (by omega) (by have := FU_big; omega), Int.one_mul]
  rw [show S 16 0 + 1 = ((nQ S + 1 : Nat) : Int) by omega, ← Int.natCast_pow]
  rw [show ((0 : Nat) : Int) = 0 from rfl] at b1
  exact b1
theorem q_best_12 {S : Wd} (hO : OK S) (k : Wd → Option (Int × Wd)) : ∀ (m n : Nat) (s : Int) (w : Wd), 0 ≤ s → s + m = S 5 0 → m < n → w 26 4 = S 5 0 → ∃ w', m_best_12 k n s w = k w' ∧ (∀ c, c ≠ 33 → w' c = w c) ∧ (∀ j : Nat, w' 33 j = if s ≤ (j : Int) ∧ (j : Int) < S 5 0 then w 36 j else w 33 j)
  | 0, n, s, w, h0, h1, h2, h26 => by
    obtain ⟨n, rfl⟩ : ∃ n', n = n' + 1 := ⟨n - 1, by omega⟩
    have hN := hO.1
    refine ⟨w, ?_, fun c _ => rfl, fun j => by rw [if_neg (by omega)]⟩
    rw [m_best_12, h26, wr_id (by omega) (by omega), wr_id (by omega) (by omega), if_pos (by omega)]
  | m + 1, n, s, w, h0, h1, h2, h26 => by
    obtain ⟨n, rfl⟩ : ∃ n', n = n' + 1 := ⟨n - 1, by omega⟩
    have hN := hO.1
    obtain ⟨w', a1, a2, a3⟩ := q_best_12 hO k m n (s + 1) (wset w 33 s.toNat (w 36 s.toNat)) (by omega) (by omega) (by omega) (by rw [wset_far 26 (by decide)]; exact h26)
    refine ⟨w', ?_, fun c hc => by rw [a2 c hc, wset_far c hc], fun j => ?_⟩
    · rw [m_best_12, h26, wr_id (by omega) (by omega), wr_id (by omega) (by omega), if_neg (by omega), if_pos (by omega), if_pos (by omega), a1]
    · rw [a3 j, wset_at, wset_far 36 (by decide)]
      by_cases e : s ≤ (j : Int) ∧ (j : Int) < S 5 0
      · rw [if_pos e]
        by_cases e2 : s + 1 ≤ (j : Int) ∧ (j : Int) < S 5 0
        · rw [if_pos e2]
        · rw [if_neg e2, if_pos (by omega), show s.toNat = j by omega]
      · rw [if_neg e, if_neg (by omega), if_neg (by omega)]
theorem q_mend_21 {S : Wd} (hO : OK S) {x : Int} : ∀ (m n : Nat) (s : Int) (w : Wd), 0 ≤ s → s + m = S 5 0 → m < n → w 26 4 = S 5 0 → ∃ w', m_mend_21 x n s w = some (x, w') ∧ (∀ c, c ≠ 33 → w' c = w c) ∧ (∀ j : Nat, w' 33 j = if s ≤ (j : Int) ∧ (j : Int) < S 5 0 then w 36 j else w 33 j)
  | 0, n, s, w, h0, h1, h2, h26 => by
    obtain ⟨n, rfl⟩ : ∃ n', n = n' + 1 := ⟨n - 1, by omega⟩
    have hN := hO.1
    refine ⟨w, ?_, fun c _ => rfl, fun j => by rw [if_neg (by omega)]⟩
    rw [m_mend_21, h26, wr_id (by omega) (by omega), wr_id (by omega) (by omega), if_pos (by omega)]
  | m + 1, n, s, w, h0, h1, h2, h26 => by
    obtain ⟨n, rfl⟩ : ∃ n', n = n' + 1 := ⟨n - 1, by omega⟩
    have hN := hO.1
    obtain ⟨w', a1, a2, a3⟩ := q_mend_21 hO (x := x) m n (s + 1) (wset w 33 s.toNat (w 36 s.toNat)) (by omega) (by omega) (by omega) (by rw [wset_far 26 (by decide)]; exact h26)
    refine ⟨w', ?_, fun c hc => by rw [a2 c hc, wset_far c hc], fun j => ?_⟩
    · rw [m_mend_21, h26, wr_id (by omega) (by omega), wr_id (by omega) (by omega), if_neg (by omega), if_pos (by omega), if_pos (by omega), a1]
    · rw [a3 j, wset_at, wset_far 36 (by decide)]
      by_cases e : s ≤ (j : Int) ∧ (j : Int) < S 5 0
      · rw [if_pos e]
        by_cases e2 : s + 1 ≤ (j : Int) ∧ (j : Int) < S 5 0
        · rw [if_pos e2]
        · rw [if_neg e2, if_pos (by omega), show s.toNat = j by omega]
      · rw [if_neg e, if_neg (by omega), if_neg (by omega)]
/-- what is kept after the berths were set anew on both sides -/
theorem Rel_14 {w w' : Wd} (h : Rel w) {r : Int → Int} (hr : inR w r) (ho : ∀ c, 2 ≤ c → c ≤ 21 → c ≠ 14 → w' c = w c) (h14 : w' 14 = row14 w r) (hm : ∀ c, 27 ≤ c → c ≤ 34 → c ≠ 33 → w' c = w c) (h26 : w' 26 4 = w 26 4 ∧ w' 26 6 = w 26 6) (h33 : ∀ j : Nat, w' 33 j = if (j : Int) < w 5 0 then r j else w 33 j) : Rel w' := by
  refine ⟨OK_14 h.1 hr ho h14, ?_⟩
  obtain ⟨r1, r2, r3, r4, r5, r6, r7, r8, r9⟩ := h.2
  unfold RM RMs RMq foul
  unfold RMs at r6
  unfold RMq at r7
  unfold foul at r8
  rw [h26.1, h26.2]
  simp (disch := omega) only [ho, hm]
  refine ⟨r1, r2, r3, r4, r5, r6, r7, r8, fun s s0 s1 => ?_⟩
  have := r9 s s0 s1
  refine ⟨?_, this.2⟩
  rw [h33, h14]
  unfold row14
  rw [Int.toNat_of_nonneg s0]
  split
  · rfl
  · exact this.1
theorem a_best {w : Wd} (h : Rel w) : Agree x_best m_best w := by
  have hO := h.1
  have hN := hO.1
  have hn := nS_i hO
  have hn7 := nS_le hO
  obtain ⟨w1, r, a1, a2, a3, a4, a5, a6⟩ := p_best hO
  have hT : RM w (wset w1 26 10 0) := RM_w h.2 ⟨by show w1 26 4 = w 26 4; rw [a2 26 (by decide) (by decide) (by decide) (by decide)], by show w1 26 6 = w 26 6; rw [a2 26 (by decide) (by decide) (by decide) (by decide)]⟩ (fun c h1 h2 => by rw [wset_far c (by omega), a2 c (by omega) (by omega) (by omega) (by omega)])
  obtain ⟨w2, j, b1, b2, b3, b4, b5, b6⟩ := q_search hO hT (near := false)
  have hsame := same_row hO a4 a5 a6 b3 b4 b6
  obtain ⟨w3, c1, c2, c3⟩ := q_best_12 hO (fun (w38 : Wd) => ((m_berthed 33 w38).bind fun q43 => some (q43.1, q43.2))) (nS w) FU 0 w2 (by omega) (by omega) (by have := FU_big; omega) (by rw [b2 26 (by decide) (by decide) (by decide)]; exact hT.1)
  have far : ∀ c, c ≠ 14 → c ≠ 22 → c ≠ 23 → c ≠ 24 → c ≠ 26 → c ≠ 33 → c ≠ 35 → c ≠ 36 → c ≠ 37 → w3 c = w c := fun c d1 d2 d3 d4 d5 d6 d7 d8 d9 => by rw [c2 c d6, b2 c d7 d8 d9, wset_far c d5, a2 c d1 d2 d3 d4]
  have e26 : ∀ i, i ≠ 10 → w3 26 i = w 26 i := fun i hi => by rw [c2 26 (by decide), b2 26 (by decide) (by decide) (by decide), wset_at, if_neg hi, a2 26 (by decide) (by decide) (by decide) (by decide)]
  have e33 : ∀ i : Nat, w3 33 i = if (i : Int) < w 5 0 then r i else w 33 i := fun i => by
    rw [c3 i]
    by_cases e : (i : Int) < w 5 0
    · have := b5 (i : Int) (by omega) e
      rw [Int.toNat_natCast] at this
      rw [if_pos e, if_pos (by omega), this, hsame i (by omega) e]
    · rw [if_neg e, if_neg (by omega), b2 33 (by decide) (by decide) (by decide), wset_far 33 (by decide), a2 33 (by decide) (by decide) (by decide) (by decide)]
  have hRel : Rel w3 := Rel_14 h a4 (fun c x y z => far c z (by omega) (by omega) (by omega) (by omega) (by omega) (by omega) (by omega) (by omega)) (by rw [c2 14 (by decide), b2 14 (by decide) (by decide) (by decide), wset_far 14 (by decide), a3]) (fun c x y z => far c (by omega) (by omega) (by omega) (by omega) (by omega) z (by omega) (by omega) (by omega)) ⟨e26 4 (by decide), e26 6 (by decide)⟩ e33
  refine ⟨cnt (bthR r) (nS w), w1, w3, a1, ?_, hRel⟩
  have hnS : nS w3 = nS w := by unfold nS; rw [far 5 (by decide) (by decide) (by decide) (by decide) (by decide) (by decide) (by decide) (by decide) (by decide)]
  unfold m_best
  rw [show (0 : Int) = bz false from rfl] at b1 ⊢
  rw [b1]
  simp only [Option.bind_some]
  rw [show bz false = 0 from rfl, c1, q_berthed hRel.1 hRel.2 (row33 hRel.1 hRel.2)]
  simp only [Option.bind_some]
  congr 2
  rw [hnS]
  refine cnt_congr (fun k x y => ?_)
  unfold bthR rowOf
  rw [c2 14 (by decide), b2 14 (by decide) (by decide) (by decide), wset_far 14 (by decide), a3]
  unfold row14
  rw [Int.toNat_of_nonneg x, if_pos (by omega)]
theorem a_mend {w : Wd} (h : Rel w) : Agree x_mend m_mend w := by
  have hO := h.1
  have hN := hO.1
  have hn := nS_i hO
  have hn7 := nS_le hO
  obtain ⟨w1, r, a1, a2, a3, a4, a5, a6⟩ := p_mend hO
  have hT : RM w (wset w1 26 10 0) := RM_w h.2 ⟨by show w1 26 4 = w 26 4; rw [a2 26 (by decide) (by decide) (by decide) (by decide)], by show w1 26 6 = w 26 6; rw [a2 26 (by decide) (by decide) (by decide) (by decide)]⟩ (fun c h1 h2 => by rw [wset_far c (by omega), a2 c (by omega) (by omega) (by omega) (by omega)])
  obtain ⟨w2, j, b1, b2, b3, b4, b5, b6⟩ := q_search hO hT (near := true)
  have hsame := same_row hO a4 a5 a6 b3 b4 b6
  have hT2 : RM w w2 := RM_w hT ⟨by rw [b2 26 (by decide) (by decide) (by decide)], by rw [b2 26 (by decide) (by decide) (by decide)]⟩ (fun c _ _ => b2 c (by omega) (by omega) (by omega))
  have hr36 : rowIn w w2 36 r := fun s s0 s1 => ⟨by rw [b5 s s0 s1, hsame s s0 s1], (a4 s s0 s1).1, (a4 s s0 s1).2⟩
  obtain ⟨w3, c1, c2, c3⟩ := q_mend_21 hO (x := movedN w r) (nS w) FU 0 w2 (by omega) (by omega) (by have := FU_big; omega) hT2.1
  have far : ∀ c, c ≠ 14 → c ≠ 22 → c ≠ 23 → c ≠ 24 → c ≠ 26 → c ≠ 33 → c ≠ 35 → c ≠ 36 → c ≠ 37 → w3 c = w c := fun c d1 d2 d3 d4 d5 d6 d7 d8 d9 => by rw [c2 c d6, b2 c d7 d8 d9, wset_far c d5, a2 c d1 d2 d3 d4]
  have e26 : ∀ i, i ≠ 10 → w3 26 i = w 26 i := fun i hi => by rw [c2 26 (by decide), b2 26 (by decide) (by decide) (by decide), wset_at, if_neg hi, a2 26 (by decide) (by decide) (by decide) (by decide)]
  have e33 : ∀ i : Nat, w3 33 i = if (i : Int) < w 5 0 then r i else w 33 i := fun i => by
    rw [c3 i]
    by_cases e : (i : Int) < w 5 0
    · have := b5 (i : Int) (by omega) e
      rw [Int.toNat_natCast] at this
      rw [if_pos e, if_pos (by omega), this, hsame i (by omega) e]
    · rw [if_neg e, if_neg (by omega), b2 33 (by decide) (by decide) (by decide), wset_far 33 (by decide), a2 33 (by decide) (by decide) (by decide) (by decide)]
  have hRel : Rel w3 := Rel_14 h a4 (fun c x y z => far c z (by omega) (by omega) (by omega) (by omega) (by omega) (by omega) (by omega) (by omega)) (by rw [c2 14 (by decide), b2 14 (by decide) (by decide) (by decide), wset_far 14 (by decide), a3]) (fun c x y z => far c (by omega) (by omega) (by omega) (by omega) (by omega) z (by omega) (by omega) (by omega)) ⟨e26 4 (by decide), e26 6 (by decide)⟩ e33
  refine ⟨movedN w r, w1, w3, a1, ?_, hRel⟩
  unfold m_mend
  rw [show (1 : Int) = bz true from rfl, b1]
  simp only [Option.bind_some]
  rw [q_moved hO hT2 hr36]
  simp only [Option.bind_some]
  exact c1

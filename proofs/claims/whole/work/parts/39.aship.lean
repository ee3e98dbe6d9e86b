/-! ship and quay agree. -/
theorem cpW_at {u : Wd} {c : Nat} {b : Int} (hb : 0 ≤ b) (hc : c ≠ 41) (k : Nat) : ∀ i : Nat, cpW u c b i c k = if b.toNat ≤ k ∧ k < b.toNat + i then u 41 (k - b.toNat) else u c k
  | 0 => by rw [if_neg (by omega)]; rfl
  | i + 1 => by
    rw [cpW, wset_here]
    show (if k = (b + (i : Int)).toNat then u 41 i else cpW u c b i c k) = _
    rw [cpW_at hb hc k i]
    by_cases e : k = (b + (i : Int)).toNat
    · rw [if_pos e, if_pos (by omega), show k - b.toNat = i by omega]
    · rw [if_neg e]
      by_cases e2 : b.toNat ≤ k ∧ k < b.toNat + i
      · rw [if_pos e2, if_pos (by omega)]
      · rw [if_neg e2, if_neg (by omega)]
def shipC (a1 a2 a3 a4 a5 a6 a7 : Int) : Prop := (1 ≤ a1 ∧ a1 ≤ 1200) ∧ (1 ≤ a2 ∧ a2 ≤ 120) ∧ (1 ≤ a3 ∧ a3 ≤ 700) ∧ (0 ≤ a4 ∧ a4 ≤ 100) ∧ (0 ≤ a5 ∧ a5 ≤ 3) ∧ (0 ≤ a6 ∧ a6 < 120) ∧ (1 ≤ a7 ∧ a7 ≤ 60)
theorem shipG_iff {a1 a2 a3 a4 a5 a6 a7 n : Int} : shipG a1 a2 a3 a4 a5 a6 a7 n = true ↔ shipC a1 a2 a3 a4 a5 a6 a7 ∧ n ≠ 7 := by
  unfold shipG shipC isH
  simp only [Bool.and_eq_true, decide_eq_true_eq]
  exact ⟨fun h => ⟨⟨h.1, h.2.1, h.2.2.1, h.2.2.2.1, h.2.2.2.2.1, h.2.2.2.2.2.1, h.2.2.2.2.2.2.1⟩, h.2.2.2.2.2.2.2⟩, fun h => ⟨h.1.1, h.1.2.1, h.1.2.2.1, h.1.2.2.2.1, h.1.2.2.2.2.1, h.1.2.2.2.2.2.1, h.1.2.2.2.2.2.2, h.2⟩⟩
def shipX (a1 a2 a3 a4 a5 a6 a7 : Int) (w : Wd) : Wd := (wset (wset (wset (wset (wset (wset (wset (wset w 6 (w 5 0).toNat a1) 7 (w 5 0).toNat a2) 8 (w 5 0).toNat a3) 9 (w 5 0).toNat a4) 10 (w 5 0).toNat a5) 11 (w 5 0).toNat a6) 12 (w 5 0).toNat a7) 5 0 ((w 5 0) + 1))
theorem p_ship {w : Wd} (hO : OK w) {a1 a2 a3 a4 a5 a6 a7 : Int} (r1 : R32 a1) (r2 : R32 a2) (r3 : R32 a3) (r4 : R32 a4) (r5 : R32 a5) (r6 : R32 a6) (r7 : R32 a7) : (shipC a1 a2 a3 a4 a5 a6 a7 ∧ w 5 0 < 7 → x_ship a1 a2 a3 a4 a5 a6 a7 w = some (w 5 0, shipX a1 a2 a3 a4 a5 a6 a7 w)) ∧ (¬ (shipC a1 a2 a3 a4 a5 a6 a7 ∧ w 5 0 < 7) → x_ship a1 a2 a3 a4 a5 a6 a7 w = some (-1, w)) := by
  have hN := hO.1
  have e1 := fun w => p_within (w := w) r1 (show R32 1 by decide) (show R32 1200 by decide)
  have e2 := fun w => p_within (w := w) r2 (show R32 1 by decide) (show R32 120 by decide)
  have e3 := fun w => p_within (w := w) r3 (show R32 1 by decide) (show R32 700 by decide)
  have e4 := fun w => p_within (w := w) r4 (show R32 0 by decide) (show R32 100 by decide)
  have e5 := fun w => p_within (w := w) r5 (show R32 0 by decide) (show R32 3 by decide)
  have e6 := fun w => p_isHour (w := w) r6
  have e7 := fun w => p_within (w := w) r7 (show R32 1 by decide) (show R32 60 by decide)
  unfold x_ship shipC
  simp only [e1, e2, e3, e4, e5, e6, e7, Option.bind_some, wr_bz, bz_eq0, isH, decide_eq_false_iff_not]
  rw [wr_id (x := w 5 0) (by omega) (by omega), show wr 7 = 7 from rfl, show wr 0 = 0 from rfl, show wr 1 = 1 from rfl]
  constructor
  · intro h
    have h0 : 0 ≤ w 5 0 ∧ w 5 0 < 7 := by omega
    simp only [h.1.1, h.1.2.1, h.1.2.2.1, h.1.2.2.2.1, h.1.2.2.2.2.1, h.1.2.2.2.2.2.1, h.1.2.2.2.2.2.2, h0, not_true, and_self, if_false, if_true, show ¬ (1 : Int) = 0 by decide]
    rfl
  · intro h
    simp only [if_true, ite_self, show ¬ (1 : Int) = 0 by decide, if_false]
    by_cases f1 : 1 ≤ a1 ∧ a1 ≤ 1200
    · by_cases f2 : 1 ≤ a2 ∧ a2 ≤ 120
      · by_cases f3 : 1 ≤ a3 ∧ a3 ≤ 700
        · by_cases f4 : 0 ≤ a4 ∧ a4 ≤ 100
          · by_cases f5 : 0 ≤ a5 ∧ a5 ≤ 3
            · by_cases f6 : 0 ≤ a6 ∧ a6 < 120
              · by_cases f7 : 1 ≤ a7 ∧ a7 ≤ 60
                · have f8 : ¬ w 5 0 < 7 := fun z => h ⟨⟨f1, f2, f3, f4, f5, f6, f7⟩, z⟩
                  simp only [f1, f2, f3, f4, f5, f6, f7, f8, and_self, not_true, if_false]
                · simp only [f7, not_false_iff, if_true, ite_self]
              · simp only [f6, not_false_iff, if_true, ite_self]
            · simp only [f5, not_false_iff, if_true, ite_self]
          · simp only [f4, not_false_iff, if_true, ite_self]
        · simp only [f3, not_false_iff, if_true, ite_self]
      · simp only [f2, not_false_iff, if_true, ite_self]
    · simp only [f1, not_false_iff, if_true, ite_self]
theorem Rel_ship {w W : Wd} {A : Nat → Int} {a1 a2 a3 a4 a5 a6 a7 : Int} (h : Rel w) (hn : w 5 0 < 7) (hc : shipC a1 a2 a3 a4 a5 a6 a7)
    (hfar : ∀ c, (c ≠ 5 ∧ (c < 6 ∨ 12 < c) ∧ c ≠ 26 ∧ c ≠ 30 ∧ c < 41) → W c = w c) (h5 : W 5 0 = w 5 0 + 1)
    (h6 : ∀ k, W 6 k = if k = (w 5 0).toNat then a1 else w 6 k) (h7 : ∀ k, W 7 k = if k = (w 5 0).toNat then a2 else w 7 k) (h8 : ∀ k, W 8 k = if k = (w 5 0).toNat then a3 else w 8 k) (h9 : ∀ k, W 9 k = if k = (w 5 0).toNat then a4 else w 9 k) (h10 : ∀ k, W 10 k = if k = (w 5 0).toNat then a5 else w 10 k) (h11 : ∀ k, W 11 k = if k = (w 5 0).toNat then a6 else w 11 k) (h12 : ∀ k, W 12 k = if k = (w 5 0).toNat then a7 else w 12 k)
    (h264 : W 26 4 = w 5 0 + 1) (h266 : W 26 6 = w 26 6) (h30 : ∀ k, W 30 k = if (7 * w 5 0).toNat ≤ k ∧ k < (7 * w 5 0).toNat + 7 then A (k - (7 * w 5 0).toNat) else w 30 k)
    (hA : A 0 = a1 ∧ A 1 = a2 ∧ A 2 = a3 ∧ A 3 = a4 ∧ A 4 = a5 ∧ A 5 = a6 ∧ A 6 = a7) : Rel W := by
  unfold shipC at hc
  unfold Rel OK OKs OKq OKe RM RMs RMq at h ⊢
  unfold foul at h ⊢
  obtain ⟨⟨c1, c2, c3, c4, c5, c6, c7, c8, c9⟩, ⟨q1, q2, q3, q4, q5, q6, q7, q8, q9⟩⟩ := h
  simp (disch := decide) only [hfar]
  refine ⟨⟨by omega, c2, c3, c4, c5, ?_, c7, c8, c9⟩, ⟨by omega, by rw [h266]; exact q2, q3, q4, q5, ?_, q7, q8, q9⟩⟩
  · intro s s0 s1
    have := c6 s s0 s1
    rw [h6, h7, h8, h9, h10, h11, h12, h5]
    by_cases e : s.toNat = (w 5 0).toNat
    · simp only [e, if_true]
      rw [e] at this
      omega
    · simp only [e, if_false]
      omega
  · intro s s0 s1
    rw [h5] at s1
    rw [h6, h7, h8, h9, h10, h11, h12]
    simp only [h30]
    by_cases e : s.toNat = (w 5 0).toNat
    · have es : s = w 5 0 := by omega
      rw [es]
      simp only [if_true]
      rw [if_pos (by omega), if_pos (by omega), if_pos (by omega), if_pos (by omega), if_pos (by omega), if_pos (by omega), if_pos (by omega)]
      rw [show (7 * w 5 0).toNat - (7 * w 5 0).toNat = 0 by omega, show (7 * w 5 0 + 1).toNat - (7 * w 5 0).toNat = 1 by omega, show (7 * w 5 0 + 2).toNat - (7 * w 5 0).toNat = 2 by omega, show (7 * w 5 0 + 3).toNat - (7 * w 5 0).toNat = 3 by omega, show (7 * w 5 0 + 4).toNat - (7 * w 5 0).toNat = 4 by omega, show (7 * w 5 0 + 5).toNat - (7 * w 5 0).toNat = 5 by omega, show (7 * w 5 0 + 6).toNat - (7 * w 5 0).toNat = 6 by omega]
      exact hA
    · simp only [e, if_false]
      rw [if_neg (by omega), if_neg (by omega), if_neg (by omega), if_neg (by omega), if_neg (by omega), if_neg (by omega), if_neg (by omega)]
      exact q6 s s0 (by omega)
theorem a_ship {w : Wd} (h : Rel w) {a1 a2 a3 a4 a5 a6 a7 : Int} (r1 : R32 a1) (r2 : R32 a2) (r3 : R32 a3) (r4 : R32 a4) (r5 : R32 a5) (r6 : R32 a6) (r7 : R32 a7) : Agree (x_ship a1 a2 a3 a4 a5 a6 a7) (m_ship a1 a2 a3 a4 a5 a6 a7) w := by
  have hN := h.1.1
  have p := p_ship h.1 r1 r2 r3 r4 r5 r6 r7
  have eM : w 26 4 = w 5 0 := h.2.1
  by_cases c : shipC a1 a2 a3 a4 a5 a6 a7 ∧ w 5 0 < 7
  · have g : shipG a1 a2 a3 a4 a5 a6 a7 (w 5 0) = true := shipG_iff.mpr ⟨c.1, by omega⟩
    have eX : (shipX a1 a2 a3 a4 a5 a6 a7 w) 26 4 = w 5 0 := eM
    refine ⟨w 5 0, shipX a1 a2 a3 a4 a5 a6 a7 w, wset (cpW (shipU a1 a2 a3 a4 a5 a6 a7 (wset (shipX a1 a2 a3 a4 a5 a6 a7 w) 26 10 0)) 30 (7 * w 5 0) 7) 26 4 (w 5 0 + 1), p.1 c, ?_, ?_⟩
    · unfold m_ship
      rw [eX, if_pos g]
    · refine Rel_ship (A := fun k => shipU a1 a2 a3 a4 a5 a6 a7 (wset (shipX a1 a2 a3 a4 a5 a6 a7 w) 26 10 0) 41 k) h c.2 c.1 ?_ ?_ ?_ ?_ ?_ ?_ ?_ ?_ ?_ rfl ?_ ?_ ⟨rfl, rfl, rfl, rfl, rfl, rfl, rfl⟩
      · intro a ha
        rw [wset_far a (by omega), cpW_far a (by omega)]
        unfold shipU shipX
        funext b
        simp only [wset, wz]
        simp only [show ¬ a = 41 by omega, show ¬ a = 26 by omega, show ¬ a = 5 by omega, show ¬ a = 6 by omega, show ¬ a = 7 by omega, show ¬ a = 8 by omega, show ¬ a = 9 by omega, show ¬ a = 10 by omega, show ¬ a = 11 by omega, show ¬ a = 12 by omega, if_false]
      · rw [wset_far 5 (by decide), cpW_far 5 (by decide)]; rfl
      · intro k; rw [wset_far 6 (by decide), cpW_far 6 (by decide)]; rfl
      · intro k; rw [wset_far 7 (by decide), cpW_far 7 (by decide)]; rfl
      · intro k; rw [wset_far 8 (by decide), cpW_far 8 (by decide)]; rfl
      · intro k; rw [wset_far 9 (by decide), cpW_far 9 (by decide)]; rfl
      · intro k; rw [wset_far 10 (by decide), cpW_far 10 (by decide)]; rfl
      · intro k; rw [wset_far 11 (by decide), cpW_far 11 (by decide)]; rfl
      · intro k; rw [wset_far 12 (by decide), cpW_far 12 (by decide)]; rfl
      · rw [wset_here]
        show cpW _ 30 _ 7 26 6 = _
        rw [cpW_far 26 (by decide)]; rfl
      · intro k
        rw [wset_far 30 (by decide), cpW_at (by omega) (by decide)]
        rfl
  · have g : shipG a1 a2 a3 a4 a5 a6 a7 (w 5 0) ≠ true := fun e => c (by have := shipG_iff.mp e; exact ⟨this.1, by omega⟩)
    refine ⟨-1, w, wset w 26 10 0, p.2 c, ?_, Rel_t h 0⟩
    unfold m_ship
    rw [eM, if_neg g]

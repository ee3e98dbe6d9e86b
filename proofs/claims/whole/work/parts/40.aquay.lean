/-! quay agrees. -/
def quayC (a1 a2 a4 a5 : Int) : Prop := (1 ≤ a1 ∧ a1 ≤ 4000) ∧ (1 ≤ a2 ∧ a2 ≤ 200) ∧ (0 ≤ a4 ∧ a4 ≤ 10) ∧ (0 ≤ a5 ∧ a5 ≤ 120)
theorem quayG_iff {a1 a2 a4 a5 n : Int} {v : Bool} : quayG a1 a2 v a4 a5 n = true ↔ quayC a1 a2 a4 a5 ∧ n ≠ 4 := by
  unfold quayG quayC
  simp only [Bool.and_eq_true, decide_eq_true_eq]
  exact ⟨fun h => ⟨⟨h.1, h.2.1, h.2.2.1, h.2.2.2.1⟩, h.2.2.2.2⟩, fun h => ⟨h.1.1, h.1.2.1, h.1.2.2.1, h.1.2.2.2, h.2⟩⟩
def quayX (a1 a2 : Int) (v : Bool) (a4 a5 : Int) (w : Wd) : Wd := (wset (wset (wset (wset (wset (wset w 17 (w 16 0).toNat a1) 18 (w 16 0).toNat a2) 19 (w 16 0).toNat (bz v)) 20 (w 16 0).toNat a4) 21 (w 16 0).toNat a5) 16 0 ((w 16 0) + 1))
theorem p_quay {w : Wd} (hO : OK w) {a1 a2 a4 a5 : Int} {v : Bool} (r1 : R32 a1) (r2 : R32 a2) (r4 : R32 a4) (r5 : R32 a5) : (quayC a1 a2 a4 a5 ∧ w 16 0 < 4 → x_quay a1 a2 (bz v) a4 a5 w = some (w 16 0, quayX a1 a2 v a4 a5 w)) ∧ (¬ (quayC a1 a2 a4 a5 ∧ w 16 0 < 4) → x_quay a1 a2 (bz v) a4 a5 w = some (-1, w)) := by
  have hN := hO.2.1
  have e1 := fun w => p_within (w := w) r1 (show R32 1 by decide) (show R32 4000 by decide)
  have e2 := fun w => p_within (w := w) r2 (show R32 1 by decide) (show R32 200 by decide)
  have e4 := fun w => p_within (w := w) r4 (show R32 0 by decide) (show R32 10 by decide)
  have e5 := fun w => p_within (w := w) r5 (show R32 0 by decide) (show R32 120 by decide)
  have ev := bz_01 v
  unfold x_quay quayC
  simp only [e1, e2, e4, e5, Option.bind_some, wr_bz, decide_eq_false_iff_not]
  generalize hz : bz v = z at ev
  simp only [bz_eq0, decide_eq_false_iff_not]
  rw [wr_id (x := w 16 0) (by omega) (by omega), show wr 4 = 4 from rfl, show wr 0 = 0 from rfl, show wr 1 = 1 from rfl]
  constructor
  · intro h
    have h0 : 0 ≤ w 16 0 ∧ w 16 0 < 4 := by omega
    simp only [h.1.1, h.1.2.1, h.1.2.2.1, h.1.2.2.2, h0, ev, not_true, and_self, if_false, if_true, show ¬ (1 : Int) = 0 by decide]
    rw [← hz]
    rfl
  · intro h
    simp only [if_true, ite_self, show ¬ (1 : Int) = 0 by decide, if_false]
    by_cases f1 : 1 ≤ a1 ∧ a1 ≤ 4000
    · by_cases f2 : 1 ≤ a2 ∧ a2 ≤ 200
      · by_cases f4 : 0 ≤ a4 ∧ a4 ≤ 10
        · by_cases f5 : 0 ≤ a5 ∧ a5 ≤ 120
          · have f8 : ¬ w 16 0 < 4 := fun z => h ⟨⟨f1, f2, f4, f5⟩, z⟩
            simp only [f1, f2, f4, f5, f8, and_self, not_true, if_false]
          · simp only [f5, not_false_iff, if_true, ite_self]
        · simp only [f4, not_false_iff, if_true, ite_self]
      · simp only [f2, not_false_iff, if_true, ite_self]
    · simp only [f1, not_false_iff, if_true, ite_self]
theorem Rel_quay {w W : Wd} {A : Nat → Int} {a1 a2 a3 a4 a5 : Int} (h : Rel w) (hn : w 16 0 < 4) (hc : quayC a1 a2 a4 a5) (h3 : a3 = 0 ∨ a3 = 1)
    (hfar : ∀ c, ((c < 16 ∨ 21 < c) ∧ c ≠ 26 ∧ c ≠ 31 ∧ c < 41) → W c = w c) (h16 : W 16 0 = w 16 0 + 1)
    (h17 : ∀ k, W 17 k = if k = (w 16 0).toNat then a1 else w 17 k) (h18 : ∀ k, W 18 k = if k = (w 16 0).toNat then a2 else w 18 k) (h19 : ∀ k, W 19 k = if k = (w 16 0).toNat then a3 else w 19 k) (h20 : ∀ k, W 20 k = if k = (w 16 0).toNat then a4 else w 20 k) (h21 : ∀ k, W 21 k = if k = (w 16 0).toNat then a5 else w 21 k)
    (h264 : W 26 4 = w 26 4) (h266 : W 26 6 = w 16 0 + 1) (h31 : ∀ k, W 31 k = if (5 * w 16 0).toNat ≤ k ∧ k < (5 * w 16 0).toNat + 5 then A (k - (5 * w 16 0).toNat) else w 31 k)
    (hA : A 0 = a1 ∧ A 1 = a2 ∧ A 2 = a3 ∧ A 3 = a4 ∧ A 4 = a5) : Rel W := by
  unfold quayC at hc
  unfold Rel OK OKs OKq OKe RM RMs RMq at h ⊢
  unfold foul at h ⊢
  obtain ⟨⟨c1, c2, c3, c4, c5, c6, c7, c8, c9⟩, ⟨q1, q2, q3, q4, q5, q6, q7, q8, q9⟩⟩ := h
  simp (disch := decide) only [hfar]
  refine ⟨⟨c1, by omega, c3, c4, c5, ?_, ?_, c8, c9⟩, ⟨by rw [h264]; exact q1, by omega, q3, q4, q5, q6, ?_, q8, q9⟩⟩
  · intro s s0 s1
    have := c6 s s0 s1
    rw [h16]
    omega
  · intro s s0 s1
    have := c7 s s0 s1
    rw [h17, h18, h19, h20, h21]
    by_cases e : s.toNat = (w 16 0).toNat
    · simp only [e, if_true]
      omega
    · simp only [e, if_false]
      omega
  · intro s s0 s1
    rw [h16] at s1
    rw [h17, h18, h19, h20, h21]
    simp only [h31]
    by_cases e : s.toNat = (w 16 0).toNat
    · have es : s = w 16 0 := by omega
      rw [es]
      simp only [if_true]
      rw [if_pos (by omega), if_pos (by omega), if_pos (by omega), if_pos (by omega), if_pos (by omega)]
      rw [show (5 * w 16 0).toNat - (5 * w 16 0).toNat = 0 by omega, show (5 * w 16 0 + 1).toNat - (5 * w 16 0).toNat = 1 by omega, show (5 * w 16 0 + 2).toNat - (5 * w 16 0).toNat = 2 by omega, show (5 * w 16 0 + 3).toNat - (5 * w 16 0).toNat = 3 by omega, show (5 * w 16 0 + 4).toNat - (5 * w 16 0).toNat = 4 by omega]
      exact hA
    · simp only [e, if_false]
      rw [if_neg (by omega), if_neg (by omega), if_neg (by omega), if_neg (by omega), if_neg (by omega)]
      exact q7 s s0 (by omega)
theorem a_quay {w : Wd} (h : Rel w) {a1 a2 a4 a5 : Int} {v : Bool} (r1 : R32 a1) (r2 : R32 a2) (r4 : R32 a4) (r5 : R32 a5) : Agree (x_quay a1 a2 (bz v) a4 a5) (m_quay a1 a2 v a4 a5) w := by
  have hN := h.1.2.1
  have p := p_quay (v := v) h.1 r1 r2 r4 r5
  have eM : w 26 6 = w 16 0 := h.2.2.1
  by_cases c : quayC a1 a2 a4 a5 ∧ w 16 0 < 4
  · have g : quayG a1 a2 v a4 a5 (w 16 0) = true := quayG_iff.mpr ⟨c.1, by omega⟩
    have eX : (quayX a1 a2 v a4 a5 w) 26 6 = w 16 0 := eM
    refine ⟨w 16 0, quayX a1 a2 v a4 a5 w, wset (cpW (quayU a1 a2 v a4 a5 (wset (quayX a1 a2 v a4 a5 w) 26 10 0)) 31 (5 * w 16 0) 5) 26 6 (w 16 0 + 1), p.1 c, ?_, ?_⟩
    · unfold m_quay
      rw [eX, if_pos g]
    · refine Rel_quay (A := fun k => quayU a1 a2 v a4 a5 (wset (quayX a1 a2 v a4 a5 w) 26 10 0) 41 k) h c.2 c.1 (bz_01 v) ?_ ?_ ?_ ?_ ?_ ?_ ?_ ?_ rfl ?_ ⟨rfl, rfl, rfl, rfl, rfl⟩
      · intro a ha
        rw [wset_far a (by omega), cpW_far a (by omega)]
        unfold quayU quayX
        funext b
        simp only [wset, wz]
        simp only [show ¬ a = 41 by omega, show ¬ a = 26 by omega, show ¬ a = 16 by omega, show ¬ a = 17 by omega, show ¬ a = 18 by omega, show ¬ a = 19 by omega, show ¬ a = 20 by omega, show ¬ a = 21 by omega, if_false]
      · rw [wset_far 16 (by decide), cpW_far 16 (by decide)]; rfl
      · intro k; rw [wset_far 17 (by decide), cpW_far 17 (by decide)]; rfl
      · intro k; rw [wset_far 18 (by decide), cpW_far 18 (by decide)]; rfl
      · intro k; rw [wset_far 19 (by decide), cpW_far 19 (by decide)]; rfl
      · intro k; rw [wset_far 20 (by decide), cpW_far 20 (by decide)]; rfl
      · intro k; rw [wset_far 21 (by decide), cpW_far 21 (by decide)]; rfl
      · rw [wset_here]
        show cpW _ 31 _ 5 26 4 = _
        rw [cpW_far 26 (by decide)]; rfl
      · intro k
        rw [wset_far 31 (by decide), cpW_at (by omega) (by decide)]
        rfl
  · have g : quayG a1 a2 v a4 a5 (w 16 0) ≠ true := fun e => c (by have := quayG_iff.mp e; exact ⟨this.1, by omega⟩)
    refine ⟨-1, w, wset w 26 10 0, p.2 c, ?_, Rel_t h 0⟩
    unfold m_quay
    rw [eM, if_neg g]

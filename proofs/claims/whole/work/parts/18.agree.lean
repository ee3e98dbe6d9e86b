/-! The two sides hold the same, call by call. -/
def Rel (w : Wd) : Prop := OK w ∧ RM w w
def Agree (X M : Wd → Option (Int × Wd)) (w : Wd) : Prop := ∃ r w1 w2, X w = some (r, w1) ∧ M w1 = some (r, w2) ∧ Rel w2
theorem Rel_far {w w' : Wd} (h : Rel w) (ho : ∀ c, 2 ≤ c → c ≤ 21 → w' c = w c) (hm : ∀ c, 27 ≤ c → c ≤ 34 → w' c = w c) (h26 : w' 26 4 = w 26 4 ∧ w' 26 6 = w 26 6) : Rel w' := by
  unfold Rel OK OKs OKq OKe foul RM RMs RMq at h ⊢
  unfold foul at h ⊢
  rw [h26.1, h26.2]
  simp (disch := omega) only [ho, hm]
  exact h
theorem Rel_t {w : Wd} (h : Rel w) (v : Int) : Rel (wset w 26 10 v) := Rel_far h (fun c a b => wset_far c (by omega)) (fun c a b => wset_far c (by omega)) ⟨rfl, rfl⟩
theorem Agree_read {X M : Wd → Option (Int × Wd)} {w : Wd} {r : Int} (h : Rel w) (hX : X w = some (r, w)) (hM : M w = some (r, wset w 26 10 0)) : Agree X M w := ⟨r, w, _, hX, hM, Rel_t h 0⟩
theorem a_count {w : Wd} (h : Rel w) {a : Int} (ha : R32 a) : Agree (x_count a) (m_count a) w := by
  have hT := RM_t h.2 0
  refine Agree_read h (p_count h.1 ha) ?_
  unfold m_count
  rw [wr_id ha.1 ha.2, q_berthed h.1 hT (row33 h.1 hT), hT.1, q_show h.1 hT (row33 h.1 hT), q_least h.1 hT, q_great h.1 hT, hT.2.1]
  simp only [Option.bind_some]
  repeat' split
  all_goals first | rfl | (exfalso; omega)
theorem a_first {w : Wd} (h : Rel w) {a b c : Int} (ha : R32 a) (hb : R32 b) (hc : R32 c) : Agree (x_first a b c) (m_first a b c) w := by
  have hN := h.1.1
  have hT := RM_t h.2 0
  refine Agree_read (r := if isS w a && isH b && decide (0 ≤ c ∧ c ≤ 1) then firstIn w a b (decide (c = 1)) else -1) h ?_ ?_
  · unfold x_first
    rw [p_has ha hN]
    simp only [Option.bind_some]
    rw [p_isHour hb]
    simp only [Option.bind_some]
    rw [p_within hc (by decide) (by decide)]
    simp (disch := omega) only [Option.bind_some, wr_bz, bz_eq0, wr_id]
    cases h1 : isS w a
    · rfl
    cases h2 : isH b
    · rfl
    cases h3 : decide (0 ≤ c ∧ c ≤ 1)
    · rfl
    simp only [isS, isH, decide_eq_true_eq] at h1 h2
    simp only [Bool.true_eq_false, if_false, Bool.and_self, if_true]
    by_cases e : c = 1
    · have := p_firstWayIn (ab := true) h.1 (s := a) (h := b) h1.1 (by omega) h2.1 (by omega)
      rw [if_pos e, decide_eq_true e, show (1 : Int) = bz true from rfl, this]; rfl
    · have := p_firstWayIn (ab := false) h.1 (s := a) (h := b) h1.1 (by omega) h2.1 (by omega)
      rw [if_neg e, decide_eq_false e, show (0 : Int) = bz false from rfl, this]; rfl
  · unfold m_first
    rw [q_isShip h.1 hT ha]
    simp only [Option.bind_some]
    rw [q_isHour hb]
    simp only [Option.bind_some]
    rw [p_in hc (by decide) (by decide)]
    simp (disch := omega) only [Option.bind_some, wr_bz, bz_eq0, wr_id]
    cases h1 : isS w a
    · rfl
    cases h2 : isH b
    · rfl
    cases h3 : decide (0 ≤ c ∧ c ≤ 1)
    · rfl
    simp only [isS, isH, decide_eq_true_eq] at h1 h2
    simp only [Bool.true_eq_false, if_false, Bool.and_self, if_true]
    by_cases e : c = 1
    · have := q_firstFor (ab := true) h.1 hT (s := a) (h := b) h1.1 (by omega) h2.1 (by omega)
      rw [if_pos e, decide_eq_true e, show (1 : Int) = bz true from rfl, this]; rfl
    · have := q_firstFor (ab := false) h.1 hT (s := a) (h := b) h1.1 (by omega) h2.1 (by omega)
      rw [show bz false = 0 from rfl] at this
      rw [if_neg e, decide_eq_false e, this]; rfl
theorem a_may {w : Wd} (h : Rel w) {a b : Int} (ha : R32 a) (hb : R32 b) : Agree (x_may a b) (m_may a b) w := by
  have hN := h.1.1
  have hQ := h.1.2.1
  have hT := RM_t h.2 0
  refine Agree_read (r := if isS w a && isQ w b then hind w a b else -1) h ?_ ?_
  · unfold x_may
    rw [p_has ha hN]
    simp only [Option.bind_some]
    rw [p_hasQ hb hQ]
    simp only [Option.bind_some, wr_bz, bz_eq0]
    cases h1 : isS w a
    · rfl
    cases h2 : isQ w b
    · rfl
    simp only [isS, isQ, decide_eq_true_eq] at h1 h2
    rw [p_hind h.1 h1.1 (by omega) h2.1 (by omega)]
    rfl
  · unfold m_may
    rw [q_isShip h.1 hT ha]
    simp only [Option.bind_some]
    rw [q_isQuay h.1 hT hb]
    simp only [Option.bind_some, wr_bz, bz_eq0]
    cases h1 : isS w a
    · rfl
    cases h2 : isQ w b
    · rfl
    simp only [isS, isQ, decide_eq_true_eq] at h1 h2
    rw [q_whyNot h.1 hT h1.1 h1.2 h2.1 h2.2]
    rfl
theorem a_wrong {w : Wd} (h : Rel w) : Agree x_wrong m_wrong w := by
  have hT := RM_t h.2 0
  refine Agree_read h (p_wrong h.1) ?_
  unfold m_wrong
  rw [q_why h.1 hT (row33 h.1 hT)]
  rfl
theorem a_left {w : Wd} (h : Rel w) {a : Int} (ha : R32 a) : Agree (x_left a) (m_left a) w := by
  have hQ := h.1.2.1
  have hT := RM_t h.2 0
  refine Agree_read (r := if isQ w a then roomOf w (rowOf w) a else -9999) h ?_ ?_
  · unfold x_left
    rw [p_hasQ ha hQ]
    simp only [Option.bind_some, wr_bz, bz_eq0]
    cases h2 : isQ w a
    · rfl
    simp only [isQ, decide_eq_true_eq] at h2
    rw [p_room h.1 h2.1 (by omega)]
    rfl
  · unfold m_left
    rw [q_isQuay h.1 hT ha]
    simp only [Option.bind_some, wr_bz, bz_eq0]
    cases h2 : isQ w a
    · rfl
    simp only [isQ, decide_eq_true_eq] at h2
    rw [q_room h.1 hT (row33 h.1 hT) h2.1 (by omega)]
    rfl
theorem a_in {w : Wd} (h : Rel w) {a : Int} (ha : R32 a) : Agree (x_in a) (m_in_ a) w := by
  have hN := h.1.1
  have hT := RM_t h.2 0
  refine Agree_read (r := if isS w a then w 15 a.toNat else -1) h ?_ ?_
  · unfold x_in
    rw [p_has ha hN]
    simp only [Option.bind_some, wr_bz, bz_eq0]
    cases h1 : isS w a
    · rfl
    simp only [isS, decide_eq_true_eq] at h1
    rw [if_neg (by decide), if_pos (by omega)]
    rfl
  · unfold m_in_
    rw [q_isShip h.1 hT ha]
    simp only [Option.bind_some, wr_bz, bz_eq0]
    cases h1 : isS w a
    · rfl
    simp only [isS, decide_eq_true_eq] at h1
    rw [if_neg (by decide), if_pos (by omega), (hT.2.2.2.2.2.2.2.2 a h1.1 (by omega)).2]
    rfl
theorem a_parade {w : Wd} (h : Rel w) {a : Int} (ha : R32 a) : Agree (x_parade a) (m_parade a) w := by
  have hT := RM_t h.2 0
  refine Agree_read h (p_parade h.1 ha) ?_
  unfold m_parade
  rw [q_paradeAt h.1 hT ha]
  rfl
theorem a_minutes {w : Wd} (h : Rel w) : Agree x_minutes m_minutes w := by
  have hT := RM_t h.2 0
  refine Agree_read h (p_minutes h.1) ?_
  unfold m_minutes
  rw [q_minutes_9 h.1 hT 6 FU 0 1 (by omega) (by omega) (by have := FU_big; omega), Int.zero_add]
theorem p_areHours {a b : Int} {w : Wd} (ha : R32 a) (hb : R32 b) : x_areHours a b w = some (bz (decide (0 ≤ a ∧ a ≤ b ∧ b < 120)), w) := by
  unfold x_areHours
  rw [p_isHour ha]
  simp only [Option.bind_some]
  rw [p_isHour hb]
  simp (disch := omega) only [Option.bind_some, wr_bz, bz_eq0, wr_id]
  unfold isH
  by_cases c1 : 0 ≤ a ∧ a < 120
  · rw [if_neg (by rw [decide_eq_true c1]; decide)]
    by_cases c2 : 0 ≤ b ∧ b < 120
    · rw [if_neg (by rw [decide_eq_true c2]; decide)]
      by_cases c3 : b < a
      · rw [if_pos c3, decide_eq_false (by omega)]; rfl
      · rw [if_neg c3, decide_eq_true (by omega)]; rfl
    · rw [if_pos (decide_eq_false c2), decide_eq_false (by omega)]; rfl
  · rw [if_pos (decide_eq_false c1), decide_eq_false (by omega)]; rfl
theorem a_open {w : Wd} (h : Rel w) {a b c : Int} (ha : R32 a) (hb : R32 b) (hc : R32 c) : Agree (x_open a b c) (m_open a b c) w := by
  have hN := h.1.1
  have hQ := h.1.2.1
  have hT := RM_t h.2 0
  refine Agree_read (r := if isS w a && (bth w a && decide (0 ≤ b ∧ b ≤ c ∧ c < 120)) then sumI (fun k => bz (!steep w (w 14 a.toNat) k)) (c + 1 - b).toNat b else -1) h ?_ ?_
  · unfold x_open
    rw [p_has ha hN]
    simp only [Option.bind_some]
    rw [p_areHours hb hc]
    simp only [Option.bind_some, wr_bz, bz_eq0]
    cases h1 : isS w a
    · rfl
    simp only [isS, decide_eq_true_eq] at h1
    have hs := (h.1.2.2.2.2.2.1 a h1.1 (by omega)).2.2.2.2.2.2.2.2.1
    by_cases h2 : 0 ≤ b ∧ b ≤ c ∧ c < 120
    · rw [decide_eq_true h2, if_neg (by decide), if_neg (by decide), if_pos (by omega), p_hasQ (by omega) hQ]
      simp only [Option.bind_some, wr_bz, bz_eq0, isQ]
      by_cases h3 : w 14 a.toNat = -1
      · have eb : bth w a = false := by simp [bth, h3]
        rw [if_pos (decide_eq_false (by omega)), eb]; rfl
      · have eb : bth w a = true := by simp [bth, h3]
        rw [if_neg (by rw [decide_eq_true (by omega)]; decide), eb, p_open_46 h.1 h1.1 (by omega) (by omega) (by omega) (by omega) (c + 1 - b).toNat FU 0 b (by omega) (by omega) (by have := FU_big; omega), Int.zero_add]
        rfl
    · rw [decide_eq_false h2, if_neg (by decide), if_pos rfl, Bool.and_false]; rfl
  · unfold m_open
    rw [q_isShip h.1 hT ha]
    simp only [Option.bind_some]
    rw [q_isHour hc]
    simp only [Option.bind_some]
    rw [p_in hb (by omega) hc]
    simp only [Option.bind_some, wr_bz, bz_eq0]
    cases h1 : isS w a
    · rfl
    simp only [isS, decide_eq_true_eq] at h1
    have hs := (h.1.2.2.2.2.2.1 a h1.1 (by omega)).2.2.2.2.2.2.2.2.1
    rw [if_neg (by decide), if_pos (show 0 ≤ a ∧ a < 7 by omega), (hT.2.2.2.2.2.2.2.2 a h1.1 (by omega)).1]
    simp (disch := omega) only [wr_id]
    by_cases h3 : w 14 a.toNat = -1
    · have eb : bth w a = false := by simp [bth, h3]
      rw [if_pos h3, eb]; rfl
    · have eb : bth w a = true := by simp [bth, h3]
      rw [if_neg h3, eb]
      unfold isH
      by_cases h2 : 0 ≤ b ∧ b ≤ c ∧ c < 120
      · rw [decide_eq_true h2, if_neg (by rw [decide_eq_true (by omega)]; decide), if_neg (by rw [decide_eq_true (by omega)]; decide), q_open_47 h.1 hT h1.1 h1.2 h3 (by omega) (by omega) (c + 1 - b).toNat FU 0 b (by omega) (by omega) (by have := FU_big; omega), Int.zero_add]
        rfl
      · rw [decide_eq_false h2]
        by_cases h4 : 0 ≤ c ∧ c < 120
        · rw [if_neg (by rw [decide_eq_true h4]; decide), if_pos (decide_eq_false (by omega))]; rfl
        · rw [if_pos (decide_eq_false h4)]; rfl

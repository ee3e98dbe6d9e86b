/-! The calls that change what is kept. -/
theorem wset_at {w : Wd} {c k : Nat} {v : Int} {b : Nat} : wset w c k v c b = if b = k then v else w c b := by simp [wset]
theorem toNat_eq {a b : Int} (ha : 0 ≤ a) (hb : 0 ≤ b) : a.toNat = b.toNat ↔ a = b := by omega
theorem a_tide {w : Wd} (h : Rel w) {a b : Int} (ha : R32 a) (hb : R32 b) : Agree (x_tide a b) (m_tide a b) w := by
  by_cases c : (0 ≤ a ∧ a ≤ 11) ∧ (0 ≤ b ∧ b ≤ 80)
  · refine ⟨1, wset w 2 a.toNat b, wset (wset (wset w 2 a.toNat b) 26 10 0) 27 a.toNat b, ?_, ?_, ?_⟩
    · unfold x_tide
      rw [p_within ha (by decide) (by decide)]
      simp only [Option.bind_some]
      rw [p_within hb (by decide) (by decide), decide_eq_true c.1, decide_eq_true c.2]
      simp only [Option.bind_some, wr_bz]
      rw [if_neg (by decide), if_neg (by decide), if_pos (by omega)]
    · unfold m_tide
      rw [p_in ha (by decide) (by decide)]
      simp only [Option.bind_some]
      rw [p_in hb (by decide) (by decide), decide_eq_true c.1, decide_eq_true c.2]
      simp only [Option.bind_some, wr_bz]
      rw [if_neg (by decide), if_neg (by decide), if_pos (by omega)]
    · unfold Rel OK OKs OKq OKe foul RM RMs RMq at h ⊢
      unfold foul at h ⊢
      obtain ⟨⟨c1, c2, c3, c4, c5, c6, c7, c8, c9⟩, ⟨r1, r2, r3, r4, r5, r6, r7, r8, r9⟩⟩ := h
      simp (disch := decide) only [wset_far, wset_here]
      refine ⟨⟨c1, c2, ?_, c4, c5, c6, c7, c8, c9⟩, ⟨r1, r2, ?_, r4, r5, r6, r7, r8, r9⟩⟩
      · intro k k0 k1
        split
        · omega
        · exact c3 k k0 k1
      · intro k k0 k1
        split
        · rfl
        · exact r3 k k0 k1
  · refine ⟨0, w, wset w 26 10 0, ?_, ?_, Rel_t h 0⟩
    · unfold x_tide
      rw [p_within ha (by decide) (by decide)]
      simp only [Option.bind_some]
      rw [p_within hb (by decide) (by decide)]
      simp only [Option.bind_some, wr_bz, bz_eq0]
      by_cases c1 : 0 ≤ a ∧ a ≤ 11
      · rw [if_neg (by rw [decide_eq_true c1]; decide), if_pos (decide_eq_false (by omega))]
      · rw [if_pos (decide_eq_false c1)]
    · unfold m_tide
      rw [p_in ha (by decide) (by decide)]
      simp only [Option.bind_some]
      rw [p_in hb (by decide) (by decide)]
      simp only [Option.bind_some, wr_bz, bz_eq0]
      by_cases c1 : 0 ≤ a ∧ a ≤ 11
      · rw [if_neg (by rw [decide_eq_true c1]; decide), if_pos (decide_eq_false (by omega))]
      · rw [if_pos (decide_eq_false c1)]
/-- a whole row written anew -/
def wrow (w : Wd) (c : Nat) (f : Nat → Int) : Wd := fun a => if a = c then f else w a
theorem wrow_far {w : Wd} {c : Nat} {f : Nat → Int} (a : Nat) (h : a ≠ c) : wrow w c f a = w a := by simp [wrow, h]
theorem wrow_here {w : Wd} {c : Nat} {f : Nat → Int} : wrow w c f c = f := by simp [wrow]
theorem wrow_self {w : Wd} {c : Nat} {f : Nat → Int} (h : w c = f) : wrow w c f = w := by
  funext a
  by_cases e : a = c
  · subst e; rw [wrow_here, h]
  · rw [wrow_far a e]
theorem wrow_wset {w : Wd} {c k : Nat} {v : Int} {f : Nat → Int} : wrow (wset w c k v) c f = wrow w c f := by
  funext a
  by_cases e : a = c
  · subst e; rw [wrow_here, wrow_here]
  · rw [wrow_far a e, wrow_far a e, wset_far a e]
theorem p_tugs_23 {to v : Int} (t0 : -1 ≤ to) (t1 : to < 120) : ∀ (m n : Nat) (h : Int) (w : Wd), 0 ≤ h → h + m = to + 1 → m < n → x_tugs_23 to v n h w = some (1, wrow w 3 (fun k => if h ≤ (k : Int) ∧ (k : Int) ≤ to then v else w 3 k))
  | 0, n, h, w, h0, h1, h2 => by
    obtain ⟨n, rfl⟩ : ∃ n', n = n' + 1 := ⟨n - 1, by omega⟩
    rw [x_tugs_23]
    simp (disch := omega) only [wr_id, if_pos]
    rw [wrow_self]
    funext k
    rw [if_neg (by omega)]
  | m + 1, n, h, w, h0, h1, h2 => by
    obtain ⟨n, rfl⟩ : ∃ n', n = n' + 1 := ⟨n - 1, by omega⟩
    rw [x_tugs_23]
    simp (disch := omega) only [wr_id, if_pos, if_neg]
    rw [p_tugs_23 t0 t1 m n (h + 1) _ (by omega) (by omega) (by omega), wrow_wset]
    congr 3
    funext k
    rw [wset_at]
    by_cases e : h ≤ (k : Int) ∧ (k : Int) ≤ to
    · rw [if_pos e]
      by_cases e2 : h + 1 ≤ (k : Int) ∧ (k : Int) ≤ to
      · rw [if_pos e2]
      · rw [if_neg e2, if_pos (by omega)]
    · rw [if_neg e, if_neg (by omega), if_neg (by omega)]
theorem q_tugs_36 {to v : Int} (t0 : -1 ≤ to) (t1 : to < 120) : ∀ (m n : Nat) (h : Int) (w : Wd), 0 ≤ h → h + m = to + 1 → m < n → m_tugs_36 to v n h w = some (1, wrow w 29 (fun k => if h ≤ (k : Int) ∧ (k : Int) ≤ to then v else w 29 k))
  | 0, n, h, w, h0, h1, h2 => by
    obtain ⟨n, rfl⟩ : ∃ n', n = n' + 1 := ⟨n - 1, by omega⟩
    rw [m_tugs_36]
    simp (disch := omega) only [wr_id, if_pos]
    rw [wrow_self]
    funext k
    rw [if_neg (by omega)]
  | m + 1, n, h, w, h0, h1, h2 => by
    obtain ⟨n, rfl⟩ : ∃ n', n = n' + 1 := ⟨n - 1, by omega⟩
    rw [m_tugs_36]
    simp (disch := omega) only [wr_id, if_pos, if_neg]
    rw [q_tugs_36 t0 t1 m n (h + 1) _ (by omega) (by omega) (by omega), wrow_wset]
    congr 3
    funext k
    rw [wset_at]
    by_cases e : h ≤ (k : Int) ∧ (k : Int) ≤ to
    · rw [if_pos e]
      by_cases e2 : h + 1 ≤ (k : Int) ∧ (k : Int) ≤ to
      · rw [if_pos e2]
      · rw [if_neg e2, if_pos (by omega)]
    · rw [if_neg e, if_neg (by omega), if_neg (by omega)]
theorem a_tugs {w : Wd} (h : Rel w) {a b v : Int} (ha : R32 a) (hb : R32 b) (hv : R32 v) : Agree (x_tugs a b v) (m_tugs a b v) w := by
  by_cases c : (0 ≤ a ∧ a ≤ b ∧ b < 120) ∧ (0 ≤ v ∧ v ≤ 9)
  · refine ⟨1, wrow w 3 (fun k => if a ≤ (k : Int) ∧ (k : Int) ≤ b then v else w 3 k), wrow (wset (wrow w 3 (fun k => if a ≤ (k : Int) ∧ (k : Int) ≤ b then v else w 3 k)) 26 10 0) 29 (fun k => if a ≤ (k : Int) ∧ (k : Int) ≤ b then v else w 29 k), ?_, ?_, ?_⟩
    · unfold x_tugs
      rw [p_areHours ha hb]
      simp only [Option.bind_some]
      rw [p_within hv (by decide) (by decide), decide_eq_true c.1, decide_eq_true c.2]
      simp only [Option.bind_some, wr_bz]
      rw [if_neg (by decide), if_neg (by decide), p_tugs_23 (by omega) (by omega) (b + 1 - a).toNat FU a w (by omega) (by omega) (by have := FU_big; omega)]
    · unfold m_tugs
      rw [q_isHour hb]
      simp only [Option.bind_some]
      rw [p_in ha (by decide) hb]
      simp only [Option.bind_some]
      rw [p_in hv (by decide) (by decide), decide_eq_true c.2, show isH b = true from decide_eq_true (by omega), decide_eq_true (show 0 ≤ a ∧ a ≤ b by omega)]
      simp only [Option.bind_some, wr_bz]
      rw [if_neg (by decide), if_neg (by decide), if_neg (by decide), q_tugs_36 (by omega) (by omega) (b + 1 - a).toNat FU a _ (by omega) (by omega) (by have := FU_big; omega)]
      simp (disch := decide) only [wset_far, wrow_far]
    · unfold Rel OK OKs OKq OKe foul RM RMs RMq at h ⊢
      unfold foul at h ⊢
      obtain ⟨⟨c1, c2, c3, c4, c5, c6, c7, c8, c9⟩, ⟨r1, r2, r3, r4, r5, r6, r7, r8, r9⟩⟩ := h
      simp (disch := decide) only [wset_far, wset_here, wrow_far, wrow_here]
      refine ⟨⟨c1, c2, c3, ?_, c5, c6, c7, c8, c9⟩, ⟨r1, r2, r3, r4, ?_, r6, r7, r8, r9⟩⟩
      · intro k k0 k1
        split
        · omega
        · exact c4 k k0 k1
      · intro k k0 k1
        split
        · rfl
        · exact r5 k k0 k1
  · refine ⟨0, w, wset w 26 10 0, ?_, ?_, Rel_t h 0⟩
    · unfold x_tugs
      rw [p_areHours ha hb]
      simp only [Option.bind_some]
      rw [p_within hv (by decide) (by decide)]
      simp only [Option.bind_some, wr_bz, bz_eq0]
      by_cases c1 : 0 ≤ a ∧ a ≤ b ∧ b < 120
      · rw [if_neg (by rw [decide_eq_true c1]; decide), if_pos (decide_eq_false (by omega))]
      · rw [if_pos (decide_eq_false c1)]
    · unfold m_tugs
      rw [q_isHour hb]
      simp only [Option.bind_some]
      rw [p_in ha (by decide) hb]
      simp only [Option.bind_some]
      rw [p_in hv (by decide) (by decide)]
      simp only [Option.bind_some, wr_bz, bz_eq0, isH]
      by_cases c1 : 0 ≤ b ∧ b < 120
      · rw [if_neg (by rw [decide_eq_true c1]; decide)]
        by_cases c2 : 0 ≤ a ∧ a ≤ b
        · rw [if_neg (by rw [decide_eq_true c2]; decide), if_pos (decide_eq_false (by omega))]
        · rw [if_pos (decide_eq_false c2)]
      · rw [if_pos (decide_eq_false c1)]
theorem a_arrives {w : Wd} (h : Rel w) {a b : Int} (ha : R32 a) (hb : R32 b) : Agree (x_arrives a b) (m_arrives a b) w := by
  have hN := h.1.1
  have hT := RM_t h.2 0
  by_cases c : (0 ≤ a ∧ a < w 5 0) ∧ (0 ≤ b ∧ b < 120)
  · refine ⟨w 11 a.toNat, wset w 11 a.toNat b, wset (wset (wset w 11 a.toNat b) 26 10 0) 30 (7 * a + 5).toNat b, ?_, ?_, ?_⟩
    · unfold x_arrives
      rw [p_has ha hN]
      simp only [Option.bind_some]
      rw [p_isHour hb, show isH b = true from decide_eq_true c.2, show isS w a = true from decide_eq_true c.1]
      simp only [Option.bind_some, wr_bz]
      rw [if_neg (by decide), if_neg (by decide), if_pos (by omega), if_pos (by omega)]
    · have hT' : RM w (wset (wset w 11 a.toNat b) 26 10 0) := RM_w h.2 ⟨rfl, rfl⟩ (fun c h1 h2 => by rw [wset_far c (by omega), wset_far c (by omega)])
      unfold m_arrives
      rw [q_isShip h.1 hT' ha]
      simp only [Option.bind_some]
      rw [q_isHour hb, show isH b = true from decide_eq_true c.2, show isS w a = true from decide_eq_true c.1]
      simp only [Option.bind_some, wr_bz]
      rw [if_neg (by decide), if_neg (by decide), if_pos (by omega), if_pos (by omega), (hT'.2.2.2.2.2.1 a c.1.1 c.1.2).2.2.2.2.2.1]
    · unfold Rel OK OKs OKq OKe foul RM RMs RMq at h ⊢
      unfold foul at h ⊢
      obtain ⟨⟨c1, c2, c3, c4, c5, c6, c7, c8, c9⟩, ⟨r1, r2, r3, r4, r5, r6, r7, r8, r9⟩⟩ := h
      simp (disch := decide) only [wset_far, wset_here]
      refine ⟨⟨c1, c2, c3, c4, c5, ?_, c7, c8, c9⟩, ⟨r1, r2, r3, r4, r5, ?_, r7, r8, r9⟩⟩
      · intro s s0 s1
        have := c6 s s0 s1
        by_cases e : s.toNat = a.toNat
        · rw [if_pos e]; omega
        · rw [if_neg e]; exact this
      · intro s s0 s1
        have hr := r6 s s0 s1
        rw [if_neg (by omega), if_neg (by omega), if_neg (by omega), if_neg (by omega), if_neg (by omega), if_neg (show ¬ (7 * s + 6).toNat = (7 * a + 5).toNat by omega)]
        by_cases e : s.toNat = a.toNat
        · rw [if_pos e, if_pos (by omega)]
          exact ⟨hr.1, hr.2.1, hr.2.2.1, hr.2.2.2.1, hr.2.2.2.2.1, rfl, hr.2.2.2.2.2.2⟩
        · rw [if_neg e, if_neg (by omega)]
          exact hr
  · refine ⟨-1, w, wset w 26 10 0, ?_, ?_, Rel_t h 0⟩
    · unfold x_arrives
      rw [p_has ha hN]
      simp only [Option.bind_some]
      rw [p_isHour hb]
      simp only [Option.bind_some, wr_bz, bz_eq0, isS, isH]
      by_cases c1 : 0 ≤ a ∧ a < w 5 0
      · rw [if_neg (by rw [decide_eq_true c1]; decide), if_pos (decide_eq_false (by omega))]
      · rw [if_pos (decide_eq_false c1)]
    · unfold m_arrives
      rw [q_isShip h.1 hT ha]
      simp only [Option.bind_some]
      rw [q_isHour hb]
      simp only [Option.bind_some, wr_bz, bz_eq0, isS, isH]
      by_cases c1 : 0 ≤ a ∧ a < w 5 0
      · rw [if_neg (by rw [decide_eq_true c1]; decide), if_pos (decide_eq_false (by omega))]
      · rw [if_pos (decide_eq_false c1)]
theorem a_put {w : Wd} (h : Rel w) {a b : Int} (ha : R32 a) (hb : R32 b) : Agree (x_put a b) (m_put a b) w := by
  have hN := h.1.1
  have hQ := h.1.2.1
  have hT := RM_t h.2 0
  by_cases c : (0 ≤ a ∧ a < w 5 0) ∧ (b = -1 ∨ (0 ≤ b ∧ b < w 16 0))
  · refine ⟨1, wset w 14 a.toNat b, wset (wset (wset w 14 a.toNat b) 26 10 0) 33 a.toNat b, ?_, ?_, ?_⟩
    · unfold x_put
      rw [p_has ha hN]
      simp only [Option.bind_some]
      rw [p_hasQ hb hQ, show isS w a = true from decide_eq_true c.1]
      simp (disch := omega) only [Option.bind_some, wr_bz, wr_id, bz_eq0, isQ]
      rw [if_neg (by decide)]
      have e0 : 0 ≤ a ∧ a < 7 := by omega
      simp only [e0, and_self, if_true]
      rcases c.2 with e | e
      · rw [if_pos e]
      · rw [if_neg (show ¬ b = -1 by omega), if_neg (by rw [decide_eq_true e]; decide)]
    · have hT' : RM w (wset (wset w 14 a.toNat b) 26 10 0) := RM_w h.2 ⟨rfl, rfl⟩ (fun c h1 h2 => by rw [wset_far c (by omega), wset_far c (by omega)])
      unfold m_put
      rw [q_isShip h.1 hT' ha]
      simp only [Option.bind_some]
      rw [q_isQuay h.1 hT' hb, show isS w a = true from decide_eq_true c.1]
      simp (disch := omega) only [Option.bind_some, wr_bz, wr_id, bz_eq0, isQ]
      rw [if_neg (by decide)]
      have e0 : 0 ≤ a ∧ a < 7 := by omega
      simp only [e0, and_self, if_true]
      rcases c.2 with e | e
      · rw [if_pos e]
      · rw [if_neg (show ¬ b = -1 by omega), if_neg (by rw [decide_eq_true e]; decide)]
    · unfold Rel OK OKs OKq OKe foul RM RMs RMq at h ⊢
      unfold foul at h ⊢
      obtain ⟨⟨c1, c2, c3, c4, c5, c6, c7, c8, c9⟩, ⟨r1, r2, r3, r4, r5, r6, r7, r8, r9⟩⟩ := h
      simp (disch := decide) only [wset_far, wset_here]
      refine ⟨⟨c1, c2, c3, c4, c5, ?_, c7, c8, c9⟩, ⟨r1, r2, r3, r4, r5, r6, r7, r8, ?_⟩⟩
      · intro s s0 s1
        have := c6 s s0 s1
        by_cases e : s.toNat = a.toNat
        · rw [if_pos e]; omega
        · rw [if_neg e]; exact this
      · intro s s0 s1
        have hr := r9 s s0 s1
        by_cases e : s.toNat = a.toNat
        · rw [if_pos e, if_pos e]; exact ⟨rfl, hr.2⟩
        · rw [if_neg e, if_neg e]; exact hr
  · refine ⟨0, w, wset w 26 10 0, ?_, ?_, Rel_t h 0⟩
    · unfold x_put
      rw [p_has ha hN]
      simp only [Option.bind_some]
      rw [p_hasQ hb hQ]
      simp (disch := omega) only [Option.bind_some, wr_bz, wr_id, bz_eq0, isQ, isS]
      by_cases c1 : 0 ≤ a ∧ a < w 5 0
      · rw [if_neg (by rw [decide_eq_true c1]; decide), if_neg (by omega), if_pos (decide_eq_false (by omega))]
      · rw [if_pos (decide_eq_false c1)]
    · unfold m_put
      rw [q_isShip h.1 hT ha]
      simp only [Option.bind_some]
      rw [q_isQuay h.1 hT hb]
      simp (disch := omega) only [Option.bind_some, wr_bz, wr_id, bz_eq0, isQ, isS]
      by_cases c1 : 0 ≤ a ∧ a < w 5 0
      · rw [if_neg (by rw [decide_eq_true c1]; decide), if_neg (by omega), if_pos (decide_eq_false (by omega))]
      · rw [if_pos (decide_eq_false c1)]

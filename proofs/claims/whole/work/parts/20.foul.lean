/-! foul -/
def setBit (x k : Int) (v : Bool) : Int := if v then bor x (bshl 1 k) else band x (bxor (bshl 1 k) (-1))
theorem setBit_ok : ∀ (x : Fin 128) (k : Fin 7) (v : Bool), (0 ≤ setBit (x.val : Int) (k.val : Int) v ∧ setBit (x.val : Int) (k.val : Int) v < 128) ∧ ∀ t : Fin 7, (setBit (x.val : Int) (k.val : Int) v).toNat.testBit t.val = if t = k then v else x.val.testBit t.val := by decide +kernel
theorem setBit_i {x k : Int} (x0 : 0 ≤ x) (x1 : x < 128) (k0 : 0 ≤ k) (k1 : k < 7) (v : Bool) : (0 ≤ setBit x k v ∧ setBit x k v < 128) ∧ ∀ t : Int, 0 ≤ t → t < 7 → (setBit x k v).toNat.testBit t.toNat = if t = k then v else x.toNat.testBit t.toNat := by
  have h := setBit_ok ⟨x.toNat, by omega⟩ ⟨k.toNat, by omega⟩ v
  dsimp only at h
  rw [Int.toNat_of_nonneg x0, Int.toNat_of_nonneg k0] at h
  refine ⟨h.1, fun t t0 t1 => ?_⟩
  have := h.2 ⟨t.toNat, by omega⟩
  dsimp only at this
  rw [this]
  by_cases e : t = k
  · subst e; rw [if_pos rfl, if_pos rfl]
  · rw [if_neg e, if_neg]
    intro he
    have := congrArg Fin.val he
    dsimp only at this
    omega
theorem x_foul_eq {w : Wd} (hO : OK w) {a b : Int} {v : Bool} (ha : R32 a) (hb : R32 b) : x_foul a b (bz v) w = if (0 ≤ a ∧ a < w 5 0) ∧ (0 ≤ b ∧ b < w 5 0) ∧ a ≠ b then some (1, wset (wset w 13 a.toNat (setBit (w 13 a.toNat) b v)) 13 b.toNat (setBit (w 13 b.toNat) a v)) else some (0, w) := by
  have hN := hO.1
  unfold x_foul
  rw [p_has ha hN]
  simp only [Option.bind_some]
  rw [p_has hb hN]
  simp only [Option.bind_some, wr_bz, bz_eq0]
  rw [wr_id ha.1 ha.2, wr_id hb.1 hb.2]
  unfold isS
  by_cases c1 : 0 ≤ a ∧ a < w 5 0
  · rw [if_neg (by rw [decide_eq_true c1]; decide)]
    by_cases c2 : 0 ≤ b ∧ b < w 5 0
    · rw [if_neg (by rw [decide_eq_true c2]; decide)]
      by_cases c3 : a = b
      · rw [if_pos c3, if_neg (by omega)]
      · rw [if_neg c3, if_pos (show (0 ≤ a ∧ a < w 5 0) ∧ (0 ≤ b ∧ b < w 5 0) ∧ a ≠ b from ⟨c1, c2, c3⟩)]
        have e : (wset w 13 a.toNat) = fun v => wset w 13 a.toNat v := rfl
        have e2 : ∀ v, wset w 13 a.toNat v 13 b.toNat = w 13 b.toNat := fun v => by rw [wset_at, if_neg (by omega)]
        simp only [e2]
        have f1 : 0 ≤ a ∧ a < 7 := by omega
        have f2 : 0 ≤ b ∧ b < 7 := by omega
        simp only [f1, f2, and_self, if_true]
        cases v
        · rfl
        · rfl
    · rw [if_pos (decide_eq_false c2), if_neg (by omega)]
  · rw [if_pos (decide_eq_false c1), if_neg (by omega)]
theorem m_foul_eq {S w : Wd} (hO : OK S) (hM : RM S w) {a b : Int} {v : Bool} (ha : R32 a) (hb : R32 b) : m_foul a b (bz v) w = if (0 ≤ a ∧ a < S 5 0) ∧ (0 ≤ b ∧ b < S 5 0) ∧ a ≠ b then some (1, wset (wset (wset w 26 10 0) 32 (7 * a + b).toNat (bz v)) 32 (7 * b + a).toNat (bz v)) else some (0, wset w 26 10 0) := by
  have hN := hO.1
  have hT := RM_t hM 0
  unfold m_foul
  rw [q_isShip hO hT ha]
  simp only [Option.bind_some]
  rw [q_isShip hO hT hb]
  simp only [Option.bind_some, wr_bz, bz_eq0]
  rw [wr_id ha.1 ha.2, wr_id hb.1 hb.2]
  unfold isS
  by_cases c1 : 0 ≤ a ∧ a < S 5 0
  · rw [if_neg (by rw [decide_eq_true c1]; decide)]
    by_cases c2 : 0 ≤ b ∧ b < S 5 0
    · rw [if_neg (by rw [decide_eq_true c2]; decide)]
      by_cases c3 : a = b
      · rw [if_pos c3, if_neg (by omega)]
      · rw [if_neg c3, if_pos (show (0 ≤ a ∧ a < S 5 0) ∧ (0 ≤ b ∧ b < S 5 0) ∧ a ≠ b from ⟨c1, c2, c3⟩), if_pos ⟨by omega, by cases v <;> simp [bz]⟩, if_pos ⟨by omega, by cases v <;> simp [bz]⟩]
    · rw [if_pos (decide_eq_false c2), if_neg (by omega)]
  · rw [if_pos (decide_eq_false c1), if_neg (by omega)]
theorem a_foul {w : Wd} (h : Rel w) {a b : Int} {v : Bool} (ha : R32 a) (hb : R32 b) : Agree (x_foul a b (bz v)) (m_foul a b (bz v)) w := by
  have hN := h.1.1
  by_cases c : (0 ≤ a ∧ a < w 5 0) ∧ (0 ≤ b ∧ b < w 5 0) ∧ a ≠ b
  · have sa := (h.1.2.2.2.2.2.1 a c.1.1 (by omega)).2.2.2.2.2.2.2.1
    have sb := (h.1.2.2.2.2.2.1 b c.2.1.1 (by omega)).2.2.2.2.2.2.2.1
    have ba := setBit_i sa.1 sa.2 c.2.1.1 (show b < 7 by omega) v
    have bb := setBit_i sb.1 sb.2 c.1.1 (show a < 7 by omega) v
    generalize hA : setBit (w 13 a.toNat) b v = A at ba
    generalize hB : setBit (w 13 b.toNat) a v = B at bb
    refine ⟨1, wset (wset w 13 a.toNat A) 13 b.toNat B, wset (wset (wset (wset (wset w 13 a.toNat A) 13 b.toNat B) 26 10 0) 32 (7 * a + b).toNat (bz v)) 32 (7 * b + a).toNat (bz v), ?_, ?_, ?_⟩
    · rw [x_foul_eq h.1 ha hb, if_pos c, hA, hB]
    · rw [m_foul_eq (S := w) (w := wset (wset w 13 a.toNat A) 13 b.toNat B) h.1 (RM_w h.2 ⟨rfl, rfl⟩ (fun c h1 h2 => by rw [wset_far c (by omega), wset_far c (by omega)])) ha hb, if_pos c]
    · have key : ∀ s t : Int, 0 ≤ s → s < 7 → 0 ≤ t → t < 7 → ((if s.toNat = b.toNat then B else if s.toNat = a.toNat then A else w 13 s.toNat).toNat.testBit t.toNat) = if (s = a ∧ t = b) ∨ (s = b ∧ t = a) then v else foul w s t := by
        intro s t s0 s1 t0 t1
        by_cases e1 : s = b
        · subst e1
          rw [if_pos rfl, bb.2 t t0 t1]
          by_cases e2 : t = a
          · rw [if_pos e2, if_pos (by omega)]
          · rw [if_neg e2, if_neg (by omega)]; rfl
        · rw [if_neg (by omega)]
          by_cases e2 : s = a
          · subst e2
            rw [if_pos rfl, ba.2 t t0 t1]
            by_cases e3 : t = b
            · rw [if_pos e3, if_pos (by omega)]
            · rw [if_neg e3, if_neg (by omega)]; rfl
          · rw [if_neg (by omega), if_neg (by omega)]; rfl
      have hsym := h.1.2.2.2.2.2.2.2.1
      have hirr := h.1.2.2.2.2.2.2.2.2
      have hr8 := h.2.2.2.2.2.2.2.2.1
      unfold Rel OK OKs OKq OKe foul RM RMs RMq at h ⊢
      unfold foul at h ⊢
      obtain ⟨⟨c1, c2, c3, c4, c5, c6, c7, c8, c9⟩, ⟨r1, r2, r3, r4, r5, r6, r7, r8, r9⟩⟩ := h
      simp (disch := decide) only [wset_far, wset_here]
      refine ⟨⟨c1, c2, c3, c4, c5, ?_, c7, ?_, ?_⟩, ⟨r1, r2, r3, r4, r5, r6, r7, ?_, r9⟩⟩
      · intro s s0 s1
        have := c6 s s0 s1
        refine ⟨this.1, this.2.1, this.2.2.1, this.2.2.2.1, this.2.2.2.2.1, this.2.2.2.2.2.1, this.2.2.2.2.2.2.1, ?_, this.2.2.2.2.2.2.2.2⟩
        split
        · exact bb.1
        · split
          · exact ba.1
          · exact this.2.2.2.2.2.2.2.1
      · intro s t s0 s1 t0 t1
        rw [key s t s0 s1 t0 t1, key t s t0 t1 s0 s1, hsym s t s0 s1 t0 t1]
        by_cases e : (s = a ∧ t = b) ∨ (s = b ∧ t = a)
        · rw [if_pos e, if_pos (by omega)]
        · rw [if_neg e, if_neg (by omega)]
      · intro s s0 s1
        rw [key s s s0 s1 s0 s1, if_neg (by omega)]
        exact hirr s s0 s1
      · intro s t s0 s1 t0 t1
        rw [key s t s0 s1 t0 t1]
        by_cases e : (s = a ∧ t = b) ∨ (s = b ∧ t = a)
        · rw [if_pos e]
          by_cases e2 : s = b
          · rw [if_pos (by omega)]; rfl
          · rw [if_neg (by omega), if_pos (by omega)]; rfl
        · rw [if_neg e, if_neg (by omega), if_neg (by omega)]
          exact hr8 s t s0 s1 t0 t1
  · refine ⟨0, w, wset w 26 10 0, ?_, ?_, Rel_t h 0⟩
    · rw [x_foul_eq h.1 ha hb, if_neg c]
    · rw [m_foul_eq h.1 h.2 ha hb, if_neg c]

/-! Good berths, in plain words; the class's tables and the reference's check say the same. -/
def goodR (S : Wd) (r : Int → Int) : Prop := (∀ s : Int, 0 ≤ s → s < S 5 0 → r s ≠ -1 → hind S s (r s) = 0) ∧ (∀ s t : Int, 0 ≤ t → t < s → s < S 5 0 → r s ≠ -1 → r t = r s → foul S s t = false) ∧ (∀ q : Int, 0 ≤ q → q < S 16 0 → 0 ≤ roomOf S r q)
theorem roomGo_b {S : Wd} {r : Int → Int} {q : Int} : ∀ (m : Nat) (s b a : Int), 0 < b → roomGo S r q m s b a = a - sumI (fun t => if r t = q then lng S t else 0) m s
  | 0, s, b, a, _ => by simp [roomGo, sumI]
  | m + 1, s, b, a, h => by
    rw [roomGo, sumI_s]
    by_cases c : r s = q
    · rw [if_pos c, if_pos c, roomGo_b m (s + 1) (b + 1) _ (by omega), if_neg (by omega)]
      unfold lng
      omega
    · rw [if_neg c, if_neg c, roomGo_b m (s + 1) b a h]
      omega
theorem roomGo_0 {S : Wd} {r : Int → Int} {q : Int} : ∀ (m : Nat) (s a : Int), roomGo S r q m s 0 a = a - sumI (fun t => if r t = q then lng S t else 0) m s + (if anyI (fun t => decide (r t = q)) m s then S 4 3 else 0)
  | 0, s, a => by simp [roomGo, sumI, anyI]
  | m + 1, s, a => by
    rw [roomGo, sumI_s, anyI]
    by_cases c : r s = q
    · rw [if_pos c, if_pos c, roomGo_b m (s + 1) (0 + 1) _ (by omega), if_pos (Int.le_refl _), decide_eq_true c, Bool.true_or, if_pos rfl]
      unfold lng
      omega
    · rw [if_neg c, if_neg c, roomGo_0 m (s + 1) a, decide_eq_false c, Bool.false_or, Int.zero_add]
theorem spn_at {S : Wd} {s A : Nat} (hs : s ≤ nS S) (hA : A < 2 ^ s) : spn S A = mt (gSum (fun t => lng S t)) s A := by
  unfold spn
  obtain ⟨d, e⟩ : ∃ d, nS S = s + d := ⟨nS S - s, by omega⟩
  rw [e, mt_up d s hA]
theorem spn_mono {S : Wd} (hO : OK S) : ∀ s r, r < 2 ^ s → s < nS S → spn S r ≤ spn S (2 ^ s + r) := by
  intro s r hr hs
  have hl := lng_bd hO s (by have := nS_le hO; omega)
  rw [spn_at (Nat.le_of_lt hs) hr, spn_at (s := s + 1) (by omega) (by rw [Nat.pow_succ]; omega), mt_high hr]
  generalize mt (gSum (fun t => lng S t)) s r = X
  show X ≤ X + lng S s
  omega
theorem spn_sum {S : Wd} {P : Nat} (hP : P < 2 ^ nS S) : spn S P = ssum (lng S) (nS S) P := mt_sum (lng S) (nS S) P hP
theorem mQ_bit (S : Wd) (r : Int → Int) (q : Int) (t : Nat) : (maskI (fun s => decide (r s = q)) (nS S) 0).testBit t = (decide (t < nS S) && decide (r t = q)) := by
  show (maskI _ (nS S) ((0 : Nat) : Int)).testBit t = _
  rw [maskI_bit]
  congr 1
  by_cases h : t < nS S
  · rw [decide_eq_true h, decide_eq_true (by omega)]
  · rw [decide_eq_false h, decide_eq_false (by omega)]
theorem mQ_lt (S : Wd) (r : Int → Int) (q : Int) : maskI (fun s => decide (r s = q)) (nS S) 0 < 2 ^ nS S := by
  have h2 := (maskI_lt (fun s => decide (r s = q)) (nS S) 0).1
  rw [Nat.zero_add] at h2
  exact h2
theorem fit_iff {S : Wd} (hO : OK S) {near : Bool} {r : Int → Int} {q : Int} (q0 : 0 ≤ q) (q1 : q < S 16 0) : tog S near q (maskI (fun s => decide (r s = q)) (nS S) 0) ≠ -1 ↔ (∀ s : Int, 0 ≤ s → s < S 5 0 → r s = q → hind S s q = 0) ∧ (∀ s t : Int, 0 ≤ t → t < s → s < S 5 0 → r s = q → r t = q → foul S s t = false) ∧ 0 ≤ roomOf S r q := by
  have hN := hO.1
  have hQ := hO.2.1
  have hn := nS_i hO
  have hn7 := nS_le hO
  have hq := (hO.2.2.2.2.2.2.1 q q0 (by omega)).1
  have hP := mQ_lt S r q
  have hb := mQ_bit S r q
  have h27 : 2 ^ nS S ≤ 2 ^ 7 := Nat.pow_le_pow_right (by omega) hn7
  unfold tog
  rw [tog_iff (co := fun s => bcost S near s q) (fun s hs => (bcost_bd hO (by omega) (by omega) (by omega) (by omega)).1) hn7 (spn_mono hO) (fun s hs P _ => (gW_bd (fun t ht => bcost_bd hO (by omega) (by omega) (by omega) (by omega)) s P hs).1) (nS S) _ (Nat.le_refl _) hP, spn_sum hP]
  have hroom : (maskI (fun s => decide (r s = q)) (nS S) 0 = 0 ∨ ssum (lng S) (nS S) (maskI (fun s => decide (r s = q)) (nS S) 0) ≤ S 17 q.toNat + S 4 3) ↔ 0 ≤ roomOf S r q := by
    have e1 : ssum (lng S) (nS S) (maskI (fun s => decide (r s = q)) (nS S) 0) = sumI (fun t => if r t = q then lng S t else 0) (nS S) 0 := by
      unfold ssum
      refine sumI_congr (nS S) 0 (fun k a b => ?_)
      rw [hb, decide_eq_true (show k.toNat < nS S by omega), Int.toNat_of_nonneg a, Bool.true_and]
      by_cases c : r k = q
      · rw [decide_eq_true c, if_pos c]; rfl
      · rw [decide_eq_false c, if_neg c]; rfl
    unfold roomOf
    rw [roomGo_0, e1]
    cases hany : anyI (fun t => decide (r t = q)) (nS S) 0
    · have hz : ∀ k : Int, 0 ≤ k → k < 0 + (nS S : Int) → r k ≠ q := by
        intro k a b c
        have : anyI (fun t => decide (r t = q)) (nS S) 0 = true := (anyI_iff _ _ _).mpr ⟨k, a, b, decide_eq_true c⟩
        rw [hany] at this
        cases this
      have e2 : maskI (fun s => decide (r s = q)) (nS S) 0 = 0 := mask_eq hP (Nat.two_pow_pos _) (fun t ht => by
        rw [hb, decide_eq_true ht, decide_eq_false (hz t (by omega) (by omega)), Nat.zero_testBit]; rfl)
      rw [sumI_zero (nS S) 0 (fun k a b => by rw [if_neg (hz k a b)])]
      simp only [Bool.false_eq_true, if_false]
      exact ⟨fun _ => by omega, fun _ => Or.inl e2⟩
    · obtain ⟨k, a, b, c⟩ := (anyI_iff _ _ _).mp hany
      rw [decide_eq_true_eq] at c
      have e2 : maskI (fun s => decide (r s = q)) (nS S) 0 ≠ 0 := by
        intro e
        have := hb k.toNat
        rw [e, Nat.zero_testBit, decide_eq_true (show k.toNat < nS S by omega), Int.toNat_of_nonneg a, decide_eq_true c] at this
        cases this
      simp only [if_true]
      constructor
      · rintro (h | h)
        · exact absurd h e2
        · omega
      · intro h
        exact Or.inr (by omega)
  rw [hroom]
  have hal : (∀ t, t < nS S → (maskI (fun s => decide (r s = q)) (nS S) 0).testBit t = true → alw S q t = true) ↔ (∀ s : Int, 0 ≤ s → s < S 5 0 → r s = q → hind S s q = 0) := by
    constructor
    · intro h s s0 s1 hs
      have := h s.toNat (by omega) (by rw [hb, decide_eq_true (show s.toNat < nS S by omega), Int.toNat_of_nonneg s0, decide_eq_true hs]; rfl)
      unfold alw at this
      rw [decide_eq_true_eq, Int.toNat_of_nonneg s0] at this
      exact this
    · intro h t ht hp
      rw [hb, Bool.and_eq_true, decide_eq_true_eq, decide_eq_true_eq] at hp
      exact decide_eq_true (h t (by omega) (by omega) hp.2)
  have hfo : (∀ t, t < nS S → (maskI (fun s => decide (r s = q)) (nS S) 0).testBit t = true → fol S t (maskI (fun s => decide (r s = q)) (nS S) 0 % 2 ^ t) = true) ↔ (∀ s t : Int, 0 ≤ t → t < s → s < S 5 0 → r s = q → r t = q → foul S s t = false) := by
    have key : ∀ t : Nat, t < nS S → (fol S t (maskI (fun s => decide (r s = q)) (nS S) 0 % 2 ^ t) = true ↔ ∀ u : Nat, u < t → r u = q → (S 13 t).toNat.testBit u = false) := by
      intro t ht
      have hs := (hO.2.2.2.2.2.1 t (by omega) (by omega)).2.2.2.2.2.2.2.1
      have hs' : 0 ≤ S 13 t ∧ S 13 t < 128 := hs
      have hm : maskI (fun s => decide (r s = q)) (nS S) 0 % 2 ^ t ≤ maskI (fun s => decide (r s = q)) (nS S) 0 := Nat.mod_le _ _
      unfold fol
      rw [decide_eq_true_eq, show S 13 t = (((S 13 t).toNat : Nat) : Int) by omega, band_mask (by omega) (by omega)]
      constructor
      · intro h u hu hru
        have h1 := h u
        cases hx : (S 13 t).toNat.testBit u
        · exact hx
        · exfalso
          apply h1
          refine ⟨hx, ?_⟩
          rw [Nat.testBit_mod_two_pow, hb, decide_eq_true hu, decide_eq_true (show u < nS S by omega), decide_eq_true hru]
          rfl
      · rintro h u ⟨h1, h2⟩
        rw [Nat.testBit_mod_two_pow, hb, Bool.and_eq_true, Bool.and_eq_true, decide_eq_true_eq, decide_eq_true_eq, decide_eq_true_eq] at h2
        have := h u h2.1 h2.2.2
        rw [Int.toNat_natCast] at this
        rw [this] at h1
        cases h1
    constructor
    · intro h s t t0 ts s1 hs ht
      have h1 := (key s.toNat (by omega)).mp (h s.toNat (by omega) (by rw [hb, decide_eq_true (show s.toNat < nS S by omega), Int.toNat_of_nonneg (by omega), decide_eq_true hs]; rfl)) t.toNat (by omega) (by rw [Int.toNat_of_nonneg t0]; exact ht)
      exact h1
    · intro h t ht hp
      rw [hb, Bool.and_eq_true, decide_eq_true_eq, decide_eq_true_eq] at hp
      refine (key t ht).mpr (fun u hu hru => ?_)
      have := h t u (by omega) (by omega) (by omega) hp.2 hru
      unfold foul at this
      rw [Int.toNat_natCast, Int.toNat_natCast] at this
      exact this
  rw [hal, hfo]
theorem fitAll_iff {S : Wd} (hO : OK S) {near : Bool} {r : Int → Int} (hr : inR S r) : fitAll S near r ↔ goodR S r := by
  constructor
  · intro h
    refine ⟨fun s s0 s1 hs => ?_, fun s t t0 ts s1 hs ht => ?_, fun q q0 q1 => ((fit_iff hO q0 q1).mp (h q q0 q1)).2.2⟩
    · have hb := hr s s0 s1
      exact ((fit_iff hO (by omega) hb.2).mp (h (r s) (by omega) hb.2)).1 s s0 s1 rfl
    · have hb := hr s (by omega) s1
      exact ((fit_iff hO (by omega) hb.2).mp (h (r s) (by omega) hb.2)).2.1 s t t0 ts s1 rfl ht
  · rintro ⟨h1, h2, h3⟩ q q0 q1
    refine (fit_iff hO q0 q1).mpr ⟨fun s s0 s1 hs => ?_, fun s t t0 ts s1 hs ht => ?_, h3 q q0 q1⟩
    · have := h1 s s0 s1 (by omega)
      rw [hs] at this
      exact this
    · exact h2 s t t0 ts s1 (by omega) (by omega)
/-! the reference's check -/
def badP (S : Wd) (r : Int → Int) (s : Int) : Bool := decide (r s ≠ -1) && (decide (hind S s (r s) ≠ 0) || anyI (fun t => decide (r t = r s) && foul S s t) s.toNat 0)
def goodB (S : Wd) (r : Int → Int) : Bool := !anyI (badP S r) (nS S) 0 && !anyI (shoP S r) (nQ S) 0
theorem goodB_iff {S : Wd} (hO : OK S) (r : Int → Int) : goodB S r = true ↔ goodR S r := by
  have hn := nS_i hO
  have hq := nQ_i hO
  unfold goodB
  rw [Bool.and_eq_true, Bool.not_eq_true', Bool.not_eq_true', ← Bool.not_eq_true, ← Bool.not_eq_true, anyI_iff, anyI_iff]
  constructor
  · rintro ⟨h1, h2⟩
    refine ⟨fun s s0 s1 hs => ?_, fun s t t0 ts s1 hs ht => ?_, fun q q0 q1 => ?_⟩
    · apply Classical.byContradiction
      intro hn
      exact h1 ⟨s, s0, by omega, by simp [badP, hs, hn]⟩
    · cases hf : foul S s t
      · rfl
      · exfalso
        refine h1 ⟨s, by omega, by omega, ?_⟩
        have : anyI (fun t => decide (r t = r s) && foul S s t) s.toNat 0 = true := (anyI_iff _ _ _).mpr ⟨t, t0, by omega, by rw [decide_eq_true ht, hf]; rfl⟩
        simp [badP, hs, this]
    · apply Classical.byContradiction
      intro hn
      exact h2 ⟨q, q0, by omega, by simp [shoP]; omega⟩
  · rintro ⟨h1, h2, h3⟩
    refine ⟨?_, ?_⟩
    · rintro ⟨s, s0, s1, hb⟩
      unfold badP at hb
      rw [Bool.and_eq_true, Bool.or_eq_true, decide_eq_true_eq, decide_eq_true_eq, anyI_iff] at hb
      rcases hb.2 with h | ⟨t, t0, t1, ht⟩
      · exact h (h1 s s0 (by omega) hb.1)
      · rw [Bool.and_eq_true, decide_eq_true_eq] at ht
        have := h2 s t t0 (by omega) (by omega) hb.1 ht.1
        rw [this] at ht
        cases ht.2
    · rintro ⟨q, q0, q1, hb⟩
      unfold shoP at hb
      rw [decide_eq_true_eq] at hb
      have := h3 q q0 (by omega)
      omega
theorem q_good_45 {S w : Wd} (hO : OK S) (hM : RM S w) {r : Int → Int} (hr : rowIn S w 35 r) {s : Int} (s0 : 0 ≤ s) (s1 : s < S 5 0) (k : Wd → Option (Int × Wd)) : ∀ (m n : Nat) (t : Int), 0 ≤ t → t + m = s → m < n → m_isGood_45 s k n t w = if anyI (fun t => decide (r t = r s) && foul S s t) m t = true then some (0, w) else k w
  | 0, n, t, h0, h1, h2 => by
    obtain ⟨n, rfl⟩ : ∃ n', n = n' + 1 := ⟨n - 1, by omega⟩
    have hN := hO.1
    rw [m_isGood_45, wr_id (by omega) (by omega), wr_id (by omega) (by omega), if_pos (by omega)]
    rfl
  | m + 1, n, t, h0, h1, h2 => by
    obtain ⟨n, rfl⟩ : ∃ n', n = n' + 1 := ⟨n - 1, by omega⟩
    have hN := hO.1
    have hQ := hO.2.1
    obtain ⟨z1, z2, z3⟩ := hr s s0 s1
    obtain ⟨y1, y2, y3⟩ := hr t h0 (by omega)
    have hf := hM.2.2.2.2.2.2.2.1 s t s0 (by omega) h0 (by omega)
    have ih := q_good_45 hO hM hr s0 s1 k m n (t + 1) (by omega) (by omega) (by omega)
    rw [m_isGood_45, z1, y1, hf]
    simp (disch := omega) only [wr_id, if_neg, if_pos, ih]
    rw [anyI]
    by_cases d : r t = r s
    · rw [if_pos d, decide_eq_true d]
      cases e : foul S s t
      · simp [show wr 0 = 0 from rfl]
      · simp [show wr 1 = 1 from rfl]
    · rw [if_neg d, decide_eq_false d]
      simp
/-- the reference's table of who may lie where -/
def lieIn (S w : Wd) : Prop := ∀ s q : Int, 0 ≤ s → s < S 5 0 → 0 ≤ q → q < S 16 0 → w 37 (4 * s + q).toNat = bz (decide (hind S s q = 0))
theorem q_good_2 {S w : Wd} (hO : OK S) (hM : RM S w) {r : Int → Int} (hr : rowIn S w 35 r) (hl : lieIn S w) (k : Wd → Option (Int × Wd)) : ∀ (m n : Nat) (s : Int), 0 ≤ s → s + m = S 5 0 → m < n → m_isGood_2 k n s w = if anyI (badP S r) m s = true then some (0, w) else k w
  | 0, n, s, h0, h1, h2 => by
    obtain ⟨n, rfl⟩ : ∃ n', n = n' + 1 := ⟨n - 1, by omega⟩
    have hN := hO.1
    rw [m_isGood_2, hM.1, wr_id (by omega) (by omega), wr_id (by omega) (by omega), if_pos (by omega)]
    rfl
  | m + 1, n, s, h0, h1, h2 => by
    obtain ⟨n, rfl⟩ : ∃ n', n = n' + 1 := ⟨n - 1, by omega⟩
    have hN := hO.1
    have hQ := hO.2.1
    obtain ⟨z1, z2, z3⟩ := hr s h0 (by omega)
    have ih := q_good_2 hO hM hr hl k m n (s + 1) (by omega) (by omega) (by omega)
    rw [m_isGood_2, z1, hM.1]
    simp (disch := omega) only [wr_id, if_neg, if_pos, ih]
    rw [anyI]
    by_cases c : r s = -1
    · have eb : badP S r s = false := by simp [badP, c]
      rw [if_pos c, eb, Bool.false_or]
    · rw [if_neg c, hl s (r s) h0 (by omega) (by omega) z3, wr_bz, q_good_45 hO hM hr h0 (by omega) _ s.toNat FU 0 (by omega) (by omega) (by have := FU_big; omega), ih]
      simp only [bz_eq0, decide_eq_false_iff_not]
      by_cases d : hind S s (r s) = 0
      · rw [if_neg (by simpa using d)]
        cases e : anyI (fun t => decide (r t = r s) && foul S s t) s.toNat 0
        · have eb : badP S r s = false := by simp [badP, d, e]
          rw [eb, Bool.false_or]
          rfl
        · have eb : badP S r s = true := by simp [badP, c, e]
          rw [eb, Bool.true_or]
          rfl
      · have eb : badP S r s = true := by simp [badP, c, d]
        rw [if_pos d, eb, Bool.true_or]
        rfl
theorem q_good_95 {S w : Wd} (hO : OK S) (hM : RM S w) {r : Int → Int} (hr : rowIn S w 35 r) : ∀ (m n : Nat) (q : Int), 0 ≤ q → q + m = S 16 0 → m < n → m_isGood_95 n q w = some (bz (!anyI (shoP S r) m q), w)
  | 0, n, q, h0, h1, h2 => by
    obtain ⟨n, rfl⟩ : ∃ n', n = n' + 1 := ⟨n - 1, by omega⟩
    have hN := hO.2.1
    rw [m_isGood_95, hM.2.1, wr_id (by omega) (by omega), wr_id (by omega) (by omega), if_pos (by omega)]
    rfl
  | m + 1, n, q, h0, h1, h2 => by
    obtain ⟨n, rfl⟩ : ∃ n', n = n' + 1 := ⟨n - 1, by omega⟩
    have hQ := hO.2.1
    have hb := roomOf_bd hO r h0 (show q < 4 by omega)
    have ih := q_good_95 hO hM hr m n (q + 1) (by omega) (by omega) (by omega)
    rw [m_isGood_95, hM.2.1, q_room hO hM hr h0 (by omega)]
    simp (disch := omega) only [wr_id, if_neg, Option.bind_some, ih]
    rw [anyI]
    by_cases c : 0 ≤ roomOf S r q
    · have em : shoP S r q = false := decide_eq_false (by omega)
      rw [if_pos c, em, Bool.false_or]
    · have em : shoP S r q = true := decide_eq_true (by omega)
      rw [if_neg c, em, Bool.true_or]
      rfl
theorem q_isGood {S w : Wd} (hO : OK S) (hM : RM S w) {r : Int → Int} (hr : rowIn S w 35 r) (hl : lieIn S w) : m_isGood w = some (bz (goodB S r), w) := by
  have hn := nS_i hO
  have hq := nQ_i hO
  have hn7 := nS_le hO
  have hq4 := nQ_le hO
  unfold m_isGood goodB
  rw [q_good_2 hO hM hr hl _ (nS S) FU 0 (by omega) (by omega) (by have := FU_big; omega), q_good_95 hO hM hr (nQ S) FU 0 (by omega) (by omega) (by have := FU_big; omega)]
  cases anyI (badP S r) (nS S) 0 <;> simp [bz]

/-! The reference's simple methods: over the cells of w that hold S. -/
theorem m_in_eq (a b c : Int) (w : Wd) : m_in a b c w = x_within a b c w := rfl
theorem p_in {a b c : Int} {w : Wd} (ha : R32 a) (hb : R32 b) (hc : R32 c) : m_in a b c w = some (bz (decide (b ≤ a ∧ a ≤ c)), w) := (m_in_eq a b c w).trans (p_within ha hb hc)
theorem q_isShip {S w : Wd} (hO : OK S) (hM : RM S w) {a : Int} (ha : R32 a) : m_isShip a w = some (bz (isS S a), w) := by
  have hN := hO.1
  unfold m_isShip
  rw [hM.1, p_in ha (by omega) (by omega)]
  simp only [Option.bind_some]
  rw [if_pos (bz_01 _), show decide (0 ≤ a ∧ a ≤ S 5 0 - 1) = isS S a by unfold isS; congr 1; exact propext ⟨fun h => by omega, fun h => by omega⟩]
theorem q_isQuay {S w : Wd} (hO : OK S) (hM : RM S w) {a : Int} (ha : R32 a) : m_isQuay a w = some (bz (isQ S a), w) := by
  have hN := hO.2.1
  unfold m_isQuay
  rw [hM.2.1, p_in ha (by omega) (by omega)]
  simp only [Option.bind_some]
  rw [if_pos (bz_01 _), show decide (0 ≤ a ∧ a ≤ S 16 0 - 1) = isQ S a by unfold isQ; congr 1; exact propext ⟨fun h => by omega, fun h => by omega⟩]
theorem q_isHour {a : Int} {w : Wd} (ha : R32 a) : m_isHour a w = some (bz (isH a), w) := by
  have h := p_isHour (w := w) ha
  exact h
theorem minI_eq (f g : Int → Int) : ∀ (m : Nat) (i a : Int), (∀ k, i ≤ k → k < i + m → f k = g k) → minI f m i a = minI g m i a
  | 0, _, _, _ => rfl
  | m + 1, i, a, h => by
    rw [minI, minI, h i (by omega) (by omega), minI_eq f g m (i + 1) _ (fun k a b => h k (by omega) (by omega))]
theorem maxI_eq (f g : Int → Int) : ∀ (m : Nat) (i a : Int), (∀ k, i ≤ k → k < i + m → f k = g k) → maxI f m i a = maxI g m i a
  | 0, _, _, _ => rfl
  | m + 1, i, a, h => by
    rw [maxI, maxI, h i (by omega) (by omega), maxI_eq f g m (i + 1) _ (fun k a b => h k (by omega) (by omega))]
theorem q_least_9 {S w : Wd} (hO : OK S) (hM : RM S w) : ∀ (m n : Nat) (a i : Int), 0 ≤ i → i + m = 12 → m < n → 0 ≤ a → a ≤ 80 → m_least_9 n a i w = some (minI (fun k => S 2 k.toNat) m i a, w)
  | 0, n, a, i, h0, h1, h2, h3, h4 => by
    obtain ⟨n, rfl⟩ : ∃ n', n = n' + 1 := ⟨n - 1, by omega⟩
    rw [m_least_9]
    simp (disch := omega) only [wr_id, if_pos]
    rfl
  | m + 1, n, a, i, h0, h1, h2, h3, h4 => by
    obtain ⟨n, rfl⟩ : ∃ n', n = n' + 1 := ⟨n - 1, by omega⟩
    have hk := hO.2.2.1 i h0 (by omega)
    have ih := fun a h3 h4 => q_least_9 hO hM m n a (i + 1) (by omega) (by omega) (by omega) h3 h4
    rw [m_least_9, hM.2.2.1 i h0 (by omega), minI]
    simp (disch := omega) only [wr_id, if_pos, if_neg]
    by_cases c : a ≤ S 2 i.toNat
    · rw [if_pos c, if_neg (by omega), ih a h3 h4]
    · rw [if_neg c, if_pos (by omega), ih _ hk.1 hk.2]
theorem q_least {S w : Wd} (hO : OK S) (hM : RM S w) : m_least w = some (least S, w) := by
  have h0 := hO.2.2.1 0 (by omega) (by omega)
  have e := hM.2.2.1 0 (by omega) (by omega)
  unfold m_least
  have e2 : w 27 0 = S 2 0 := e
  have h02 : 0 ≤ S 2 0 ∧ S 2 0 ≤ 80 := h0
  rw [e2, q_least_9 hO hM 11 FU _ 1 (by omega) (by omega) (by have := FU_big; omega) h02.1 h02.2]
  unfold least
  rw [show minI (fun k => S 2 k.toNat) 12 0 80 = minI (fun k => S 2 k.toNat) 11 (0 + 1) (if S 2 0 < 80 then S 2 0 else 80) from rfl]
  rw [show (if S 2 0 < 80 then S 2 0 else 80) = S 2 0 by split <;> omega]
  rfl
theorem q_great_9 {S w : Wd} (hO : OK S) (hM : RM S w) : ∀ (m n : Nat) (a i : Int), 0 ≤ i → i + m = 12 → m < n → 0 ≤ a → a ≤ 80 → m_greatest_9 n a i w = some (maxI (fun k => S 2 k.toNat) m i a, w)
  | 0, n, a, i, h0, h1, h2, h3, h4 => by
    obtain ⟨n, rfl⟩ : ∃ n', n = n' + 1 := ⟨n - 1, by omega⟩
    rw [m_greatest_9]
    simp (disch := omega) only [wr_id, if_pos]
    rfl
  | m + 1, n, a, i, h0, h1, h2, h3, h4 => by
    obtain ⟨n, rfl⟩ : ∃ n', n = n' + 1 := ⟨n - 1, by omega⟩
    have hk := hO.2.2.1 i h0 (by omega)
    have ih := fun a h3 h4 => q_great_9 hO hM m n a (i + 1) (by omega) (by omega) (by omega) h3 h4
    rw [m_greatest_9, hM.2.2.1 i h0 (by omega), maxI]
    simp (disch := omega) only [wr_id, if_pos, if_neg]
    by_cases c : S 2 i.toNat ≤ a
    · rw [if_pos c, if_neg (by omega), ih a h3 h4]
    · rw [if_neg c, if_pos (by omega), ih _ hk.1 hk.2]
theorem q_great {S w : Wd} (hO : OK S) (hM : RM S w) : m_greatest w = some (great S, w) := by
  have h0 := hO.2.2.1 0 (by omega) (by omega)
  have e := hM.2.2.1 0 (by omega) (by omega)
  unfold m_greatest
  have e2 : w 27 0 = S 2 0 := e
  have h02 : 0 ≤ S 2 0 ∧ S 2 0 ≤ 80 := h0
  rw [e2, q_great_9 hO hM 11 FU _ 1 (by omega) (by omega) (by have := FU_big; omega) h02.1 h02.2]
  unfold great
  rw [show maxI (fun k => S 2 k.toNat) 12 0 0 = maxI (fun k => S 2 k.toNat) 11 (0 + 1) (if 0 < S 2 0 then S 2 0 else 0) from rfl]
  rw [show (if 0 < S 2 0 then S 2 0 else 0) = S 2 0 by split <;> omega]
  rfl
theorem q_level {S w : Wd} (hM : RM S w) {h : Int} (h0 : 0 ≤ h) (h1 : h ≤ 1000) : m_level h w = some (lev S h, w) := by
  unfold m_level lev
  rw [brem_id h0 (by omega) (by omega) (by omega), if_pos (by omega), hM.2.2.1 (h % 12) (by omega) (by omega)]
theorem RM_e {S w : Wd} (hM : RM S w) : w 28 0 = S 4 0 ∧ w 28 1 = S 4 1 ∧ w 28 2 = S 4 2 ∧ w 28 3 = S 4 3 ∧ w 28 4 = S 4 4 :=
  ⟨hM.2.2.2.1 0 (by omega) (by omega), hM.2.2.2.1 1 (by omega) (by omega), hM.2.2.2.1 2 (by omega) (by omega), hM.2.2.2.1 3 (by omega) (by omega), hM.2.2.2.1 4 (by omega) (by omega)⟩
theorem q_comes {S w : Wd} (hO : OK S) (hM : RM S w) {s h : Int} {ab : Bool} (s0 : 0 ≤ s) (s1 : s < S 5 0) (h0 : 0 ≤ h) (h1 : h < 120) : m_comes s h (bz ab) w = some (bz (wayIn S s h ab), w) := by
  have hN := hO.1
  obtain ⟨e0, e1, e2, e3, e4⟩ := hO.2.2.2.2.1
  have hs := hO.2.2.2.2.2.1 s s0 (by omega)
  have hl := lev_bd hO h
  have hR := hM.2.2.2.2.2.1 s s0 s1
  obtain ⟨r0, r1, r2, r3, r4⟩ := RM_e hM
  unfold OKs at hs
  unfold RMs at hR
  unfold m_comes wayIn cross
  rw [q_level hM h0 (by omega)]
  simp only [Option.bind_some]
  rw [q_level hM h0 (by omega)]
  simp (disch := omega) only [Option.bind_some, if_pos, hR.2.1, r0, r1, r2, hR.2.2.1, wr_id, wr_bz, bz_eq0]
  by_cases c : S 7 s.toNat + S 4 2 ≤ S 4 0 + lev S h
  · rw [if_pos c, decide_eq_true c]
    cases ab
    · rfl
    · rw [if_neg (by decide)]
      by_cases d : S 4 1 < S 8 s.toNat + lev S h + S 4 2
      · rw [if_pos d, decide_eq_false (by omega)]; rfl
      · rw [if_neg d, decide_eq_true (by omega)]; rfl
  · rw [if_neg c, decide_eq_false c]; rfl
theorem q_firstFor_3 {S w : Wd} (hO : OK S) (hM : RM S w) {s : Int} {ab : Bool} (s0 : 0 ≤ s) (s1 : s < S 5 0) : ∀ (m n : Nat) (h : Int), 0 ≤ h → h + m = 120 → m < n → m_firstFor_3 s (bz ab) n h w = some (findI (fun k => wayIn S s k ab) m h, w)
  | 0, n, h, h0, h1, h2 => by
    obtain ⟨n, rfl⟩ : ∃ n', n = n' + 1 := ⟨n - 1, by omega⟩
    rw [m_firstFor_3]
    simp (disch := omega) only [wr_id, if_pos]
    rfl
  | m + 1, n, h, h0, h1, h2 => by
    obtain ⟨n, rfl⟩ : ∃ n', n = n' + 1 := ⟨n - 1, by omega⟩
    rw [m_firstFor_3]
    simp (disch := omega) only [wr_id, if_neg]
    rw [q_comes hO hM s0 s1 h0 (by omega)]
    simp only [Option.bind_some, wr_bz, bz_eq0]
    rw [findI]
    cases hc : wayIn S s h ab
    · rw [if_pos rfl, q_firstFor_3 hO hM s0 s1 m n (h + 1) (by omega) (by omega) (by omega)]; rfl
    · rw [if_neg (by decide)]; rfl
theorem q_firstFor {S w : Wd} (hO : OK S) (hM : RM S w) {s h : Int} {ab : Bool} (s0 : 0 ≤ s) (s1 : s < S 5 0) (h0 : 0 ≤ h) (h1 : h ≤ 120) : m_firstFor s h (bz ab) w = some (firstIn S s h ab, w) := by
  unfold m_firstFor firstIn
  exact q_firstFor_3 hO hM s0 s1 _ FU h h0 (by omega) (by have := FU_big; omega)
theorem q_isAbove {S w : Wd} (hO : OK S) (hM : RM S w) {q : Int} (q0 : 0 ≤ q) (q1 : q < S 16 0) : m_isAbove q w = some (bz (above S q), w) := by
  have hQ := hO.2.1
  have hq := (hO.2.2.2.2.2.2.1 q q0 (by omega)).2.2.1
  have hR := hM.2.2.2.2.2.2.1 q q0 q1
  unfold RMq at hR
  unfold m_isAbove above
  rw [if_pos (by omega), hR.2.2.1]
  rcases hq with h | h <;> rw [h] <;> rfl
theorem q_whyNot {S w : Wd} (hO : OK S) (hM : RM S w) {s q : Int} (s0 : 0 ≤ s) (s1 : s < S 5 0) (q0 : 0 ≤ q) (q1 : q < S 16 0) : m_whyNot s q w = some (hind S s q, w) := by
  have hN := hO.1
  have hQ := hO.2.1
  obtain ⟨e0, e1, e2, e3, e4⟩ := hO.2.2.2.2.1
  have hs := hO.2.2.2.2.2.1 s s0 (by omega)
  have hq := hO.2.2.2.2.2.2.1 q q0 (by omega)
  have hl := least_bd hO
  have hR := hM.2.2.2.2.2.1 s s0 s1
  have hRq := hM.2.2.2.2.2.2.1 q q0 q1
  obtain ⟨r0, r1, r2, r3, r4⟩ := RM_e hM
  unfold OKs at hs
  unfold OKq at hq
  unfold RMs at hR
  unfold RMq at hRq
  unfold m_whyNot hind afloat
  rw [if_pos (by omega), q_least hO hM]
  simp only [Option.bind_some]
  have ef := q_firstFor (ab := above S q) hO hM s0 s1 (h := S 11 s.toNat) (by omega) (by omega)
  have hb := firstIn_bd S s (S 11 s.toNat) (above S q) (by omega) (by omega)
  simp (disch := omega) only [Option.bind_some, if_pos, hR.2.1, r2, hRq.2.1, hR.2.2.2.2.2.1, q_isAbove hO hM q0 q1, ef, wr_id]
  by_cases c : S 7 s.toNat + S 4 2 ≤ S 18 q.toNat + least S
  · rw [if_pos c, if_pos (decide_eq_true c)]
    split <;> rfl
  · rw [if_neg c, if_neg (by rw [decide_eq_false c]; decide)]
/-- a row of berths in the cell c -/
def rowIn (S w : Wd) (c : Nat) (r : Int → Int) : Prop := ∀ s : Int, 0 ≤ s → s < S 5 0 → w c s.toNat = r s ∧ -1 ≤ r s ∧ r s < S 16 0
theorem q_show_6 {S w : Wd} (hO : OK S) (hM : RM S w) {c : Nat} {r : Int → Int} (hr : rowIn S w c r) : ∀ (m n : Nat) (a s : Int), 0 ≤ s → s + m = S 5 0 → m < n → m_show_6 c (S 5 0) n a s w = some (a + sumI (fun k => show1 S k (r k)) m s, w)
  | 0, n, a, s, h0, h1, h2 => by
    obtain ⟨n, rfl⟩ : ∃ n', n = n' + 1 := ⟨n - 1, by omega⟩
    have hN := hO.1
    rw [m_show_6]
    simp (disch := omega) only [wr_id, if_pos]
    simp [sumI]
  | m + 1, n, a, s, h0, h1, h2 => by
    obtain ⟨n, rfl⟩ : ∃ n', n = n' + 1 := ⟨n - 1, by omega⟩
    have hN := hO.1
    have hQ := hO.2.1
    obtain ⟨z1, z2, z3⟩ := hr s h0 (by omega)
    have ih := fun a => q_show_6 hO hM hr m n a (s + 1) (by omega) (by omega) (by omega)
    have hR := hM.2.2.2.2.2.1 s h0 (by omega)
    unfold RMs at hR
    rw [m_show_6, z1, hR.2.2.2.1]
    simp (disch := omega) only [wr_id, if_neg, if_pos]
    rw [sumI_s]
    simp only [ih]
    by_cases c : r s = -1
    · rw [if_pos c]
      simp only [show1]
      rw [if_pos c, Int.zero_add]
    · have hRq := hM.2.2.2.2.2.2.1 (r s) (by omega) (by omega)
      unfold RMq at hRq
      rw [if_neg c, hRq.2.2.2.1]
      simp only [show1]
      rw [if_neg c, Int.add_assoc]
theorem q_show {S w : Wd} (hO : OK S) (hM : RM S w) {c : Nat} {r : Int → Int} (hr : rowIn S w c r) : m_show c (S 5 0) w = some (showAll S r, w) := by
  have hN := nS_i hO
  have := hO.1
  unfold m_show
  rw [q_show_6 hO hM hr (nS S) FU 0 0 (by omega) (by omega) (by have := FU_big; unfold nS; omega), Int.zero_add]
  rfl
def bthR (r : Int → Int) (s : Int) : Bool := decide (r s ≠ -1)
theorem q_berthed_4 {S w : Wd} (hO : OK S) (hM : RM S w) {c : Nat} {r : Int → Int} (hr : rowIn S w c r) : ∀ (m n : Nat) (a s : Int), 0 ≤ s → s + m = S 5 0 → m < n → m_berthed_4 c n a s w = some (a + sumI (fun k => bz (bthR r k)) m s, w)
  | 0, n, a, s, h0, h1, h2 => by
    obtain ⟨n, rfl⟩ : ∃ n', n = n' + 1 := ⟨n - 1, by omega⟩
    have hN := hO.1
    rw [m_berthed_4, hM.1]
    simp (disch := omega) only [wr_id, if_pos]
    simp [sumI]
  | m + 1, n, a, s, h0, h1, h2 => by
    obtain ⟨n, rfl⟩ : ∃ n', n = n' + 1 := ⟨n - 1, by omega⟩
    have hN := hO.1
    have hQ := hO.2.1
    obtain ⟨z1, z2, z3⟩ := hr s h0 (by omega)
    have ih := fun a => q_berthed_4 hO hM hr m n a (s + 1) (by omega) (by omega) (by omega)
    rw [m_berthed_4, z1, hM.1]
    simp (disch := omega) only [wr_id, if_neg, if_pos]
    rw [sumI_s]
    simp only [ih]
    unfold bthR
    by_cases c : r s = -1
    · rw [if_pos c]
      simp [c, bz]
    · rw [if_neg c]
      simp [c, bz]
      omega
theorem q_berthed {S w : Wd} (hO : OK S) (hM : RM S w) {c : Nat} {r : Int → Int} (hr : rowIn S w c r) : m_berthed c w = some (cnt (bthR r) (nS S), w) := by
  have hN := nS_i hO
  have := hO.1
  unfold m_berthed
  rw [q_berthed_4 hO hM hr (nS S) FU 0 0 (by omega) (by omega) (by have := FU_big; unfold nS; omega), Int.zero_add]
  rfl
theorem row33 {S w : Wd} (hO : OK S) (hM : RM S w) : rowIn S w 33 (rowOf S) := by
  intro s s0 s1
  have hN := hO.1
  have hs := (hO.2.2.2.2.2.1 s s0 (by omega)).2.2.2.2.2.2.2.2.1
  exact ⟨(hM.2.2.2.2.2.2.2.2 s s0 (by omega)).1, hs.1, hs.2⟩
theorem RM_w {S w w' : Wd} (h : RM S w) (h26 : w' 26 4 = w 26 4 ∧ w' 26 6 = w 26 6) (ho : ∀ c, 27 ≤ c → c ≤ 34 → w' c = w c) : RM S w' := by
  unfold RM RMs RMq at h ⊢
  rw [h26.1, h26.2, ho 27 (by omega) (by omega), ho 28 (by omega) (by omega), ho 29 (by omega) (by omega), ho 30 (by omega) (by omega), ho 31 (by omega) (by omega), ho 32 (by omega) (by omega), ho 33 (by omega) (by omega), ho 34 (by omega) (by omega)]
  exact h
theorem RM_t {S w : Wd} (h : RM S w) (v : Int) : RM S (wset w 26 10 v) := RM_w h ⟨rfl, rfl⟩ (fun c h1 h2 => wset_far c (by omega))

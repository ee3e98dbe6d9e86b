/-! Counting, the parade and the gangways. -/
theorem sumI_le {f g : Int → Int} : ∀ (m : Nat) (i : Int), (∀ k, i ≤ k → k < i + m → f k ≤ g k) → sumI f m i ≤ sumI g m i
  | 0, _, _ => by simp [sumI]
  | m + 1, i, h => by
    have h1 := h i (by omega) (by omega)
    have h2 := sumI_le m (i + 1) (fun k a b => h k (by omega) (by omega))
    rw [sumI_s, sumI_s]
    omega
theorem sumI_lt {f g : Int → Int} : ∀ (m : Nat) (i : Int), (∀ k, i ≤ k → k < i + m → f k ≤ g k) → (∃ k, i ≤ k ∧ k < i + m ∧ f k < g k) → sumI f m i < sumI g m i
  | 0, _, _, ⟨k, a, b, _⟩ => by omega
  | m + 1, i, h, ⟨k, a, b, c⟩ => by
    have h1 := h i (by omega) (by omega)
    rw [sumI_s, sumI_s]
    by_cases e : k = i
    · subst e
      have h2 := sumI_le m (k + 1) (fun j a b => h j (by omega) (by omega))
      omega
    · have h2 := sumI_lt m (i + 1) (fun j a b => h j (by omega) (by omega)) ⟨k, by omega, by omega, c⟩
      omega
theorem sumI_add {f g : Int → Int} : ∀ (m : Nat) (i : Int), sumI (fun k => f k + g k) m i = sumI f m i + sumI g m i
  | 0, _ => rfl
  | m + 1, i => by
    rw [sumI_s, sumI_s, sumI_s, sumI_add m (i + 1)]
    omega
theorem bz_le {a b : Bool} (h : a = true → b = true) : bz a ≤ bz b := by cases a <;> cases b <;> simp_all [bz]
theorem cnt_le {p q : Int → Bool} {n : Nat} (h : ∀ k : Int, 0 ≤ k → k < n → p k = true → q k = true) : cnt p n ≤ cnt q n :=
  sumI_le n 0 (fun k a b => bz_le (h k a (by omega)))
theorem cnt_lt {p q : Int → Bool} {n : Nat} (h : ∀ k : Int, 0 ≤ k → k < n → p k = true → q k = true) {k : Int} (k0 : 0 ≤ k) (k1 : k < n) (kp : p k = false) (kq : q k = true) : cnt p n < cnt q n :=
  sumI_lt n 0 (fun k a b => bz_le (h k a (by omega))) ⟨k, k0, by omega, by simp only [kp, kq]; decide⟩
theorem cnt_0 {p : Int → Bool} {n : Nat} (h : ∀ k : Int, 0 ≤ k → k < n → p k = false) : cnt p n = 0 :=
  sumI_zero n 0 (fun k a b => by simp only [h k a (by omega)]; rfl)
theorem cnt_congr {p q : Int → Bool} {n : Nat} (h : ∀ k : Int, 0 ≤ k → k < n → p k = q k) : cnt p n = cnt q n :=
  sumI_congr n 0 (fun k a b => by simp only [h k a (by omega)])
theorem cnt_pos {p : Int → Bool} {n : Nat} (h : 0 < cnt p n) : ∃ k : Int, 0 ≤ k ∧ k < n ∧ p k = true := by
  apply Classical.byContradiction
  intro hn
  have : cnt p n = 0 := cnt_0 (fun k a b => by
    cases hp : p k
    · rfl
    · exact absurd ⟨k, a, b, hp⟩ hn)
  omega
theorem sumI_one {q : Int → Bool} : ∀ (m : Nat) (i : Int), (∀ j k, i ≤ j → j < i + m → i ≤ k → k < i + m → q j = true → q k = true → j = k) → sumI (fun k => bz (q k)) m i ≤ 1
  | 0, _, _ => by simp [sumI]
  | m + 1, i, h => by
    rw [sumI_s]
    have ih := sumI_one (q := q) m (i + 1) (fun j k a b c d => h j k (by omega) (by omega) (by omega) (by omega))
    cases hq : q i
    · rw [show bz false = 0 from rfl]; omega
    · have : sumI (fun k => bz (q k)) m (i + 1) = 0 := sumI_zero m (i + 1) (fun k a b => by
        cases hk : q k
        · simp [bz, hk]
        · have := h i k (by omega) (by omega) (by omega) (by omega) hq hk
          omega)
      rw [this]
      decide
theorem cnt_and {p q : Int → Bool} {n : Nat} : cnt p n = cnt (fun k => p k && q k) n + cnt (fun k => p k && !q k) n := by
  unfold cnt
  rw [← sumI_add]
  refine sumI_congr n 0 (fun k _ _ => ?_)
  dsimp only
  cases p k <;> cases q k <;> rfl
/-- no more of them than there are numbers below i -/
theorem cnt_inj {p : Int → Bool} {f : Int → Int} {n : Nat} : ∀ (i : Nat), (∀ s : Int, 0 ≤ s → s < n → p s = true → 0 ≤ f s ∧ f s < i) → (∀ s t : Int, 0 ≤ s → s < n → 0 ≤ t → t < n → p s = true → p t = true → f s = f t → s = t) → cnt p n ≤ i
  | 0, h, _ => by
    rw [cnt_0 (fun k a b => by
      cases hp : p k
      · rfl
      · have := h k a b hp
        omega)]
    omega
  | i + 1, h, hi => by
    rw [cnt_and (q := fun k => decide (f k = i))]
    have h1 : cnt (fun k => p k && decide (f k = i)) n ≤ 1 := sumI_one n 0 (fun j k a b c d hj hk => by
      simp only [Bool.and_eq_true, decide_eq_true_eq] at hj hk
      exact hi j k a (by omega) c (by omega) hj.1 hk.1 (by omega))
    have h2 := cnt_inj (p := fun k => p k && !decide (f k = i)) (f := f) (n := n) i (fun s a b hp => by
      simp only [Bool.and_eq_true, Bool.not_eq_true', decide_eq_false_iff_not] at hp
      have := h s a b hp.1
      omega) (fun s t a b c d hs ht e => by
      simp only [Bool.and_eq_true] at hs ht
      exact hi s t a b c d hs.1 ht.1 e)
    omega
theorem cnt_surj {p : Int → Bool} {f : Int → Int} {n : Nat} (h : ∀ s : Int, 0 ≤ s → s < n → p s = true → 0 ≤ f s ∧ f s < cnt p n) (hi : ∀ s t : Int, 0 ≤ s → s < n → 0 ≤ t → t < n → p s = true → p t = true → f s = f t → s = t) {i : Int} (i0 : 0 ≤ i) (i1 : i < cnt p n) : ∃ s : Int, 0 ≤ s ∧ s < n ∧ p s = true ∧ f s = i := by
  apply Classical.byContradiction
  intro hn
  have hb := cnt_bd p n
  have := cnt_inj (p := p) (f := fun s => if f s < i then f s else f s - 1) (n := n) (cnt p n - 1).toNat (fun s a b hp => by
    have h1 := h s a b hp
    have h2 : f s ≠ i := fun e => hn ⟨s, a, b, hp, e⟩
    split <;> omega) (fun s t a b c d hs ht e => by
    have h1 : f s ≠ i := fun e => hn ⟨s, a, b, hs, e⟩
    have h2 : f t ≠ i := fun e => hn ⟨t, c, d, ht, e⟩
    refine hi s t a b c d hs ht ?_
    split at e <;> split at e <;> omega)
  omega
/-! the parade -/
theorem ahead_irr (S : Wd) (s : Int) : ahead S s s = false := by simp [ahead]
theorem ahead_tr {S : Wd} {s t u : Int} (h1 : ahead S s t = true) (h2 : ahead S t u = true) : ahead S s u = true := by
  unfold ahead at h1 h2 ⊢
  simp only [Bool.or_eq_true, Bool.and_eq_true, decide_eq_true_eq] at h1 h2 ⊢
  omega
theorem ahead_tot {S : Wd} {s t : Int} (h : s ≠ t) : ahead S s t = true ∨ ahead S t s = true := by
  unfold ahead
  simp only [Bool.or_eq_true, Bool.and_eq_true, decide_eq_true_eq]
  omega
theorem aheadN_lt {S : Wd} {s : Int} (s0 : 0 ≤ s) (s1 : s < nS S) (hs : bth S s = true) : 0 ≤ aheadN S s ∧ aheadN S s < cnt (bth S) (nS S) := by
  unfold aheadN
  refine ⟨(cnt_bd _ _).1, cnt_lt (fun k a b h => ?_) s0 s1 ?_ hs⟩
  · simp only [Bool.and_eq_true] at h; exact h.1
  · rw [ahead_irr, Bool.and_false]
theorem aheadN_mono {S : Wd} {s t : Int} (s0 : 0 ≤ s) (s1 : s < nS S) (hs : bth S s = true) (h : ahead S s t = true) : aheadN S s < aheadN S t := by
  unfold aheadN
  refine cnt_lt (fun k a b hk => ?_) s0 s1 ?_ ?_
  · simp only [Bool.and_eq_true] at hk ⊢
    exact ⟨hk.1, ahead_tr hk.2 h⟩
  · rw [ahead_irr, Bool.and_false]
  · rw [hs, h]; rfl
theorem aheadN_inj {S : Wd} {s t : Int} (s0 : 0 ≤ s) (s1 : s < nS S) (t0 : 0 ≤ t) (t1 : t < nS S) (hs : bth S s = true) (ht : bth S t = true) (h : aheadN S s = aheadN S t) : s = t := by
  apply Classical.byContradiction
  intro hn
  rcases ahead_tot (S := S) hn with e | e
  · have := aheadN_mono s0 s1 hs e; omega
  · have := aheadN_mono t0 t1 ht e; omega
theorem findI_none {p : Int → Bool} : ∀ (m : Nat) (i : Int), 0 ≤ i → (findI p m i = -1 ↔ ∀ k, i ≤ k → k < i + m → p k = false)
  | 0, i, _ => ⟨fun _ k a b => by omega, fun _ => rfl⟩
  | m + 1, i, h => by
    rw [findI]
    cases hp : p i
    · rw [if_neg (by decide), findI_none m (i + 1) (by omega)]
      constructor
      · intro g k a b
        by_cases e : k = i
        · subst e; exact hp
        · exact g k (by omega) (by omega)
      · intro g k a b
        exact g k (by omega) (by omega)
    · rw [if_pos rfl]
      constructor
      · intro e; omega
      · intro g
        have := g i (by omega) (by omega)
        rw [hp] at this
        cases this
theorem par_none {S : Wd} (hO : OK S) (i : Int) : par S i = -1 ↔ ¬ (0 ≤ i ∧ i < cnt (bth S) (nS S)) := by
  unfold par
  rw [findI_none _ _ (by omega)]
  constructor
  · rintro h ⟨a, b⟩
    obtain ⟨s, s0, s1, hs, e⟩ := cnt_surj (p := bth S) (f := aheadN S) (n := nS S) (fun s a b hp => aheadN_lt a b hp) (fun s t a b c d hs ht e => aheadN_inj a b c d hs ht e) a b
    have := h s (by omega) (by omega)
    simp [hs, e] at this
  · intro h k a b
    cases hb : bth S k
    · rfl
    · have := aheadN_lt a (by omega) hb
      simp
      omega
theorem q_isAhead {S w : Wd} (hO : OK S) (hM : RM S w) {t s : Int} (t0 : 0 ≤ t) (t1 : t < S 5 0) (s0 : 0 ≤ s) (s1 : s < S 5 0) : m_isAhead t s w = some (bz (ahead S t s), w) := by
  have hN := hO.1
  have f1 := (hO.2.2.2.2.2.1 s s0 (by omega)).2.2.2.1
  have f2 := (hO.2.2.2.2.2.1 t t0 (by omega)).2.2.2.1
  have r1 := (hM.2.2.2.2.2.1 s s0 s1).2.2.2.1
  have r2 := (hM.2.2.2.2.2.1 t t0 t1).2.2.2.1
  unfold m_isAhead ahead
  rw [r1, r2]
  simp (disch := omega) only [wr_id, if_pos]
  by_cases c : S 9 s.toNat < S 9 t.toNat
  · simp [c, bz]
  · by_cases d : S 9 t.toNat = S 9 s.toNat
    · by_cases e : s ≤ t
      · have : ¬ t < s := by omega
        simp [d, e, this, bz]
      · have : t < s := by omega
        simp [d, e, this, bz]
    · simp [c, d, bz]
theorem q_paradeAt_28 {S w : Wd} (hO : OK S) (hM : RM S w) {i s : Int} (s0 : 0 ≤ s) (s1 : s < S 5 0) (k : Int → Wd → Option (Int × Wd)) : ∀ (m n : Nat) (a t : Int), 0 ≤ t → t + m = S 5 0 → m < n → m_paradeAt_28 i s k n a t w = k (a + sumI (fun t => bz (bth S t && ahead S t s)) m t) w
  | 0, n, a, t, h0, h1, h2 => by
    obtain ⟨n, rfl⟩ : ∃ n', n = n' + 1 := ⟨n - 1, by omega⟩
    have hN := hO.1
    rw [m_paradeAt_28, hM.1]
    simp (disch := omega) only [wr_id, if_pos]
    simp [sumI]
  | m + 1, n, a, t, h0, h1, h2 => by
    obtain ⟨n, rfl⟩ : ∃ n', n = n' + 1 := ⟨n - 1, by omega⟩
    have hN := hO.1
    have hQ := hO.2.1
    obtain ⟨z1, z2, z3⟩ := row33 hO hM t h0 (by omega)
    have ih := fun a => q_paradeAt_28 hO hM (i := i) s0 s1 k m n a (t + 1) (by omega) (by omega) (by omega)
    have z2' : -1 ≤ S 14 t.toNat := z2
    have z3' : S 14 t.toNat < S 16 0 := z3
    rw [m_paradeAt_28, z1, hM.1, q_isAhead hO hM h0 (by omega) s0 s1]
    simp (disch := omega) only [wr_id, if_neg, if_pos, Option.bind_some, ih, wr_bz, bz_eq0]
    rw [sumI_s]
    by_cases c : S 14 t.toNat = -1
    · have hb : bth S t = false := by simp [bth, c]
      simp [c, hb, bz]
    · have hb : bth S t = true := by simp [bth, c]
      rw [if_neg c]
      by_cases d : t = s
      · subst d
        simp [ahead_irr, bz]
      · rw [if_neg d]
        cases he : ahead S t s
        · simp [bz]
        · simp [hb, bz]
          congr 1
          omega
theorem q_paradeAt_2 {S w : Wd} (hO : OK S) (hM : RM S w) {i : Int} (hi : R32 i) : ∀ (m n : Nat) (s : Int), 0 ≤ s → s + m = S 5 0 → m < n → m_paradeAt_2 i n s w = some (findI (fun s => bth S s && decide (aheadN S s = i)) m s, w)
  | 0, n, s, h0, h1, h2 => by
    obtain ⟨n, rfl⟩ : ∃ n', n = n' + 1 := ⟨n - 1, by omega⟩
    have hN := hO.1
    rw [m_paradeAt_2, hM.1]
    simp (disch := omega) only [wr_id, if_pos]
    rfl
  | m + 1, n, s, h0, h1, h2 => by
    obtain ⟨n, rfl⟩ : ∃ n', n = n' + 1 := ⟨n - 1, by omega⟩
    have hN := hO.1
    have hQ := hO.2.1
    have hn := nS_i hO
    obtain ⟨z1, z2, z3⟩ := row33 hO hM s h0 (by omega)
    have z2' : -1 ≤ S 14 s.toNat := z2
    have z3' : S 14 s.toNat < S 16 0 := z3
    have ih := q_paradeAt_2 hO hM hi m n (s + 1) (by omega) (by omega) (by omega)
    have hb := cnt_bd (fun t => bth S t && ahead S t s) (nS S)
    have hb2 : 0 ≤ aheadN S s ∧ aheadN S s ≤ 7 := by unfold aheadN; omega
    rw [m_paradeAt_2, z1, hM.1]
    simp (disch := omega) only [wr_id, if_neg, if_pos, ih]
    rw [q_paradeAt_28 hO hM h0 (by omega) _ (nS S) FU 0 0 (by omega) (by omega) (by have := FU_big; unfold nS; omega), Int.zero_add, show sumI (fun t => bz (bth S t && ahead S t s)) (nS S) 0 = aheadN S s from rfl]
    rw [findI, ih, wr_id (x := aheadN S s) (by omega) (by omega)]
    by_cases c : S 14 s.toNat = -1
    · have hb : bth S s = false := by simp [bth, c]
      simp [c, hb]
    · have hb : bth S s = true := by simp [bth, c]
      rw [if_neg c]
      by_cases d : aheadN S s = i
      · simp [hb, d]
      · simp [d]
theorem q_paradeAt {S w : Wd} (hO : OK S) (hM : RM S w) {i : Int} (hi : R32 i) : m_paradeAt i w = some (par S i, w) := by
  have hN := nS_i hO
  have := hO.1
  unfold m_paradeAt
  exact q_paradeAt_2 hO hM hi (nS S) FU 0 (by omega) (by omega) (by have := FU_big; unfold nS; omega)
theorem q_minutes_9 {S w : Wd} (hO : OK S) (hM : RM S w) : ∀ (m n : Nat) (a i : Int), 1 ≤ i → i + m = 7 → m < n → m_minutes_9 n a i w = some (a + minsGo S m i, w)
  | 0, n, a, i, h0, h1, h2 => by
    obtain ⟨n, rfl⟩ : ∃ n', n = n' + 1 := ⟨n - 1, by omega⟩
    have hb := cnt_bd (bthR (rowOf S)) (nS S)
    have hn := nS_le hO
    rw [m_minutes_9, q_berthed hO hM (row33 hO hM)]
    simp (disch := omega) only [wr_id, if_pos, Option.bind_some]
    simp [minsGo]
  | m + 1, n, a, i, h0, h1, h2 => by
    obtain ⟨n, rfl⟩ : ∃ n', n = n' + 1 := ⟨n - 1, by omega⟩
    have hN := hO.1
    have hb := cnt_bd (bthR (rowOf S)) (nS S)
    have hn := nS_le hO
    have ih := fun a => q_minutes_9 hO hM m n a (i + 1) (by omega) (by omega) (by omega)
    have e : cnt (bth S) (nS S) = cnt (bthR (rowOf S)) (nS S) := rfl
    have n1 := par_none hO (i - 1)
    have n2 := par_none hO i
    have b1 := par_bd hO (i - 1)
    have b2 := par_bd hO i
    rw [e] at n1 n2
    rw [m_minutes_9, q_berthed hO hM (row33 hO hM)]
    simp only [Option.bind_some]
    rw [q_paradeAt hO hM (by omega)]
    simp only [Option.bind_some]
    rw [q_paradeAt hO hM (by omega)]
    simp (disch := omega) only [wr_id, Option.bind_some]
    rw [minsGo]
    by_cases c : cnt (bthR (rowOf S)) (nS S) ≤ i
    · rw [if_pos c, if_pos (Or.inr (n2.mpr (by omega))), Int.add_zero]
    · rw [if_neg c]
      have m1 : par S (i - 1) ≠ -1 := fun h => n1.mp h (by omega)
      have m2 : par S i ≠ -1 := fun h => n2.mp h (by omega)
      have s1 := (hO.2.2.2.2.2.1 (par S (i - 1)) (by omega) (by omega)).2.2.2.2.2.2.1
      have s2 := (hO.2.2.2.2.2.1 (par S i) (by omega) (by omega)).2.2.2.2.2.2.1
      have r1 := (hM.2.2.2.2.2.1 (par S (i - 1)) (by omega) (by omega)).2.2.2.2.2.2
      have r2 := (hM.2.2.2.2.2.1 (par S i) (by omega) (by omega)).2.2.2.2.2.2
      rw [if_neg (show ¬ (par S (i - 1) = -1 ∨ par S i = -1) by omega), r1, r2]
      simp (disch := omega) only [wr_id, if_pos, ih]
      by_cases d : S 12 (par S (i - 1)).toNat ≤ S 12 (par S i).toNat
      · rw [if_pos d]
        by_cases f : S 12 (par S (i - 1)).toNat < S 12 (par S i).toNat
        · rw [if_pos f, Int.add_assoc]
        · rw [if_neg f, show S 12 (par S i).toNat = S 12 (par S (i - 1)).toNat by omega, Int.add_assoc]
      · rw [if_neg d, if_neg (by omega), Int.add_assoc]
theorem q_open_47 {S w : Wd} (hO : OK S) (hM : RM S w) {s to : Int} (s0 : 0 ≤ s) (s1 : s < S 5 0) (hb : S 14 s.toNat ≠ -1) (t1 : to < 120) (t0 : -1 ≤ to) : ∀ (m n : Nat) (a h : Int), 0 ≤ h → h + m = to + 1 → m < n → m_open_47 s to n a h w = some (a + sumI (fun k => bz (!steep S (S 14 s.toNat) k)) m h, w)
  | 0, n, a, h, h0, h1, h2 => by
    obtain ⟨n, rfl⟩ : ∃ n', n = n' + 1 := ⟨n - 1, by omega⟩
    rw [m_open_47]
    simp (disch := omega) only [wr_id, if_pos]
    simp [sumI]
  | m + 1, n, a, h, h0, h1, h2 => by
    obtain ⟨n, rfl⟩ : ∃ n', n = n' + 1 := ⟨n - 1, by omega⟩
    have hN := hO.1
    have hQ := hO.2.1
    obtain ⟨z1, z2, z3⟩ := row33 hO hM s s0 s1
    have z2' : -1 ≤ S 14 s.toNat := z2
    have z3' : S 14 s.toNat < S 16 0 := z3
    have ih := fun a => q_open_47 hO hM s0 s1 hb t1 t0 m n a (h + 1) (by omega) (by omega) (by omega)
    obtain ⟨e0, e1, e2, e3, e4⟩ := hO.2.2.2.2.1
    obtain ⟨r0, r1, r2, r3, r4⟩ := RM_e hM
    have hl := lev_bd hO h
    have hq := (hO.2.2.2.2.2.2.1 (S 14 s.toNat) (by omega) (by omega)).2.2.2.2
    have rq := (hM.2.2.2.2.2.2.1 (S 14 s.toNat) (by omega) (by omega)).2.2.2.2
    have z1' : w 33 s.toNat = S 14 s.toNat := z1
    rw [m_open_47, z1', q_level hM h0 (by omega)]
    simp only [Option.bind_some]
    rw [rq, r4]
    unfold iabs
    rw [wr_id (x := S 21 (S 14 s.toNat).toNat - lev S h - 30) (by omega) (by omega)]
    rw [sumI_s]
    by_cases c : 0 ≤ S 21 (S 14 s.toNat).toNat - lev S h - 30
    · rw [if_pos c]
      simp (disch := omega) only [wr_id, if_neg, if_pos, ih]
      by_cases d : S 4 4 < S 21 (S 14 s.toNat).toNat - lev S h - 30
      · have es : steep S (S 14 s.toNat) h = true := by simp [steep, d]
        rw [if_pos d, es, show bz (!true) = 0 from rfl, Int.zero_add]
      · have es : steep S (S 14 s.toNat) h = false := by
          unfold steep
          rw [decide_eq_false (by omega), decide_eq_false (by omega)]; rfl
        rw [if_neg d, es, show bz (!false) = 1 from rfl, Int.add_assoc]
    · rw [if_neg c]
      simp (disch := omega) only [wr_id, if_neg, if_pos, ih]
      by_cases d : S 4 4 < 0 - (S 21 (S 14 s.toNat).toNat - lev S h - 30)
      · have es : steep S (S 14 s.toNat) h = true := by
          unfold steep
          rw [decide_eq_false (by omega), decide_eq_true (by omega)]; rfl
        rw [if_pos d, es, show bz (!true) = 0 from rfl, Int.zero_add]
      · have es : steep S (S 14 s.toNat) h = false := by
          unfold steep
          rw [decide_eq_false (by omega), decide_eq_false (by omega)]; rfl
        rw [if_neg d, es, show bz (!false) = 1 from rfl, Int.add_assoc]

/-! The class's plan: who can come in, the costs of hours, the tables. -/
def can (S : Wd) (s h : Int) : Bool := bth S s && (decide (S 11 s.toNat ≤ h) && (decide (S 10 s.toNat ≤ S 3 h.toNat) && wayIn S s h (above S (S 14 s.toNat))))
theorem p_canComeIn {w : Wd} (hO : OK w) {s h : Int} (s0 : 0 ≤ s) (s1 : s < 7) (h0 : 0 ≤ h) (h1 : h < 120) : x_canComeIn s h w = some (bz (can w s h), w) := by
  have hQ := hO.2.1
  have hs := hO.2.2.2.2.2.1 s s0 s1
  have hu := hO.2.2.2.1 h h0 h1
  unfold OKs at hs
  unfold x_canComeIn
  rw [if_pos ⟨s0, s1⟩, p_hasQ (by omega) hQ]
  simp only [Option.bind_some, wr_bz, bz_eq0]
  unfold isQ
  by_cases c : w 14 s.toNat = -1
  · have eb : bth w s = false := by simp [bth, c]
    rw [if_pos (decide_eq_false (by omega))]
    unfold can
    rw [eb]; rfl
  · have eb : bth w s = true := by simp [bth, c]
    have f1 : 0 ≤ s ∧ s < 7 := ⟨s0, s1⟩
    have f2 : 0 ≤ h ∧ h < 120 := ⟨h0, h1⟩
    have f3 : 0 ≤ w 14 s.toNat ∧ w 14 s.toNat < 4 := by omega
    rw [if_neg (by rw [decide_eq_true (by omega)]; decide), above_bz hO f3.1 f3.2, p_way hO s0 s1 h0 h1]
    simp only [f1, f2, f3, and_self, if_true]
    simp (disch := omega) only [Option.bind_some, wr_bz, bz_eq0, wr_id]
    unfold can
    rw [eb]
    by_cases d1 : h < w 11 s.toNat
    · rw [if_pos d1, decide_eq_false (by omega)]; rfl
    · rw [if_neg d1, decide_eq_true (show w 11 s.toNat ≤ h by omega)]
      by_cases d2 : w 3 h.toNat < w 10 s.toNat
      · rw [if_pos d2, decide_eq_false (by omega)]; rfl
      · rw [if_neg d2, decide_eq_true (show w 10 s.toNat ≤ w 3 h.toNat by omega)]
        cases wayIn w s h (above w (w 14 s.toNat))
        · rfl
        · rfl
theorem can_arr {S : Wd} {s h : Int} (h1 : can S s h = true) : bth S s = true ∧ S 11 s.toNat ≤ h := by
  unfold can at h1
  simp only [Bool.and_eq_true, decide_eq_true_eq] at h1
  exact ⟨h1.1, h1.2.1⟩
def hw (s : Int) : Int := 2 ^ (7 * (6 - s)).toNat
def hcost (S : Wd) (s h : Int) : Int := (h - S 11 s.toNat) * 562949953421312 + h * hw s
theorem hw_bd {s : Int} (s0 : 0 ≤ s) (s1 : s < 7) : 1 ≤ hw s ∧ hw s ≤ 4398046511104 := by
  have : s = 0 ∨ s = 1 ∨ s = 2 ∨ s = 3 ∨ s = 4 ∨ s = 5 ∨ s = 6 := by omega
  rcases this with rfl | rfl | rfl | rfl | rfl | rfl | rfl <;> decide
theorem hcost_bd {S : Wd} (hO : OK S) {s h : Int} (s0 : 0 ≤ s) (s1 : s < 7) (h0 : S 11 s.toNat ≤ h) (h1 : h < 120) : 0 ≤ hcost S s h ∧ hcost S s h ≤ 68000000000000000 := by
  have a := (hO.2.2.2.2.2.1 s s0 s1).2.2.2.2.2.1
  have b := hw_bd s0 s1
  have c := mul_bd (show 0 ≤ h by omega) (show h ≤ 119 by omega) (Int.le_trans (by decide) b.1) b.2
  unfold hcost
  omega
theorem p_hourCost {w : Wd} (hO : OK w) {s h : Int} (s0 : 0 ≤ s) (s1 : s < 7) (h0 : w 11 s.toNat ≤ h) (h1 : h < 120) : x_hourCost s h w = some (hcost w s h, w) := by
  have a := (hO.2.2.2.2.2.1 s s0 s1).2.2.2.2.2.1
  have b := hw_bd s0 s1
  have c := mul_bd (show 0 ≤ h by omega) (show h ≤ 119 by omega) (Int.le_trans (by decide) b.1) b.2
  unfold x_hourCost x_lowShift hcost
  rw [if_pos ⟨s0, s1⟩]
  simp only [Option.bind_some]
  rw [wr_id (x := h - w 11 s.toNat) (by omega) (by omega), wr_id (x := h) (by omega) (by omega), lshl_i (b := 49) (by omega) (by omega) (by omega) (by show (h - w 11 s.toNat) * 562949953421312 < _; omega), lshl_i (a := h) (by omega) (by omega) (by omega) (by unfold hw at c; omega)]
  rfl
/-! fills -/
theorem p_fillL_6 {c1 l1 : Nat} {v : Int} (hl : l1 ≤ 100000) : ∀ (m n : Nat) (i : Int) (w : Wd), 0 ≤ i → i + m = l1 → m < n → ∃ w', ja_fillL_6 c1 l1 v (l1 : Int) n i w = some (0, w') ∧ (∀ c, c ≠ c1 → w' c = w c) ∧ (∀ k : Nat, w' c1 k = if i ≤ (k : Int) ∧ (k : Int) < l1 then v else w c1 k)
  | 0, n, i, w, h0, h1, h2 => by
    obtain ⟨n, rfl⟩ : ∃ n', n = n' + 1 := ⟨n - 1, by omega⟩
    refine ⟨w, ?_, fun c _ => rfl, fun k => by rw [if_neg (by omega)]⟩
    rw [ja_fillL_6, wr_id (by omega) (by omega), wr_id (by omega) (by omega), if_pos (by omega)]
  | m + 1, n, i, w, h0, h1, h2 => by
    obtain ⟨n, rfl⟩ : ∃ n', n = n' + 1 := ⟨n - 1, by omega⟩
    obtain ⟨w', a1, a2, a3⟩ := p_fillL_6 (c1 := c1) (v := v) hl m n (i + 1) (wset w c1 i.toNat v) (by omega) (by omega) (by omega)
    refine ⟨w', ?_, fun c hc => by rw [a2 c hc, wset_far c hc], fun k => ?_⟩
    · rw [ja_fillL_6, wr_id (by omega) (by omega), wr_id (by omega) (by omega), if_neg (by omega), if_pos (by omega), a1]
    · rw [a3 k, wset_at]
      by_cases e : i ≤ (k : Int) ∧ (k : Int) < l1
      · rw [if_pos e]
        by_cases e2 : i + 1 ≤ (k : Int) ∧ (k : Int) < l1
        · rw [if_pos e2]
        · rw [if_neg e2, if_pos (by omega)]
      · rw [if_neg e, if_neg (by omega), if_neg (by omega)]
theorem p_fillI_5 {c1 l1 : Nat} {v : Int} (hl : l1 ≤ 100000) : ∀ (m n : Nat) (i : Int) (w : Wd), 0 ≤ i → i + m = l1 → m < n → ∃ w', ja_fillI_5 c1 l1 v (l1 : Int) n i w = some (0, w') ∧ (∀ c, c ≠ c1 → w' c = w c) ∧ (∀ k : Nat, w' c1 k = if i ≤ (k : Int) ∧ (k : Int) < l1 then v else w c1 k)
  | 0, n, i, w, h0, h1, h2 => by
    obtain ⟨n, rfl⟩ : ∃ n', n = n' + 1 := ⟨n - 1, by omega⟩
    refine ⟨w, ?_, fun c _ => rfl, fun k => by rw [if_neg (by omega)]⟩
    rw [ja_fillI_5, wr_id (by omega) (by omega), wr_id (by omega) (by omega), if_pos (by omega)]
  | m + 1, n, i, w, h0, h1, h2 => by
    obtain ⟨n, rfl⟩ : ∃ n', n = n' + 1 := ⟨n - 1, by omega⟩
    obtain ⟨w', a1, a2, a3⟩ := p_fillI_5 (c1 := c1) (v := v) hl m n (i + 1) (wset w c1 i.toNat v) (by omega) (by omega) (by omega)
    refine ⟨w', ?_, fun c hc => by rw [a2 c hc, wset_far c hc], fun k => ?_⟩
    · rw [ja_fillI_5, wr_id (by omega) (by omega), wr_id (by omega) (by omega), if_neg (by omega), if_pos (by omega), a1]
    · rw [a3 k, wset_at]
      by_cases e : i ≤ (k : Int) ∧ (k : Int) < l1
      · rw [if_pos e]
        by_cases e2 : i + 1 ≤ (k : Int) ∧ (k : Int) < l1
        · rw [if_pos e2]
        · rw [if_neg e2, if_pos (by omega)]
      · rw [if_neg e, if_neg (by omega), if_neg (by omega)]
/-! who is ready at an hour: it can come in, and fewer than E of its hours were before -/
def cbf (S : Wd) (s h : Int) : Int := cnt (fun k => can S s k) h.toNat
def rdy (S : Wd) (E h s : Int) : Bool := can S s h && decide (cbf S s h < E)
def com (S : Wd) : Nat := maskI (bth S) (nS S) 0
theorem com_lt {S : Wd} (hO : OK S) : com S < 128 := mask128 _ (nS_le hO)
theorem com_bit (S : Wd) (t : Nat) : (com S).testBit t = (decide (t < nS S) && bth S t) := by
  unfold com
  show (maskI _ (nS S) ((0 : Nat) : Int)).testBit t = _
  rw [maskI_bit]
  congr 1
  by_cases h : t < nS S
  · rw [decide_eq_true h, decide_eq_true (by omega)]
  · rw [decide_eq_false h, decide_eq_false (by omega)]
theorem cbf_s {S : Wd} {s h : Int} (h0 : 0 ≤ h) : cbf S s (h + 1) = cbf S s h + bz (can S s h) := by
  unfold cbf cnt
  rw [show (h + 1).toNat = h.toNat + 1 by omega, sumI_last, Int.zero_add, Int.toNat_of_nonneg h0]
theorem cbf_bd (S : Wd) (s : Int) {h : Int} (h0 : 0 ≤ h) : 0 ≤ cbf S s h ∧ cbf S s h ≤ h := by
  have := cnt_bd (fun k => can S s k) h.toNat
  unfold cbf
  omega
def chE (S : Wd) (E s h : Int) : Int := if cbf S s h < E then cbf S s h else E
theorem and_pow0 {A s : Nat} : A &&& 2 ^ s = 0 ↔ A.testBit s = false := by
  constructor
  · intro h
    have h1 : (A &&& 2 ^ s).testBit s = false := by rw [h, Nat.zero_testBit]
    rw [Nat.testBit_and, Nat.testBit_two_pow_self, Bool.and_true] at h1
    exact h1
  · intro h
    apply Nat.eq_of_testBit_eq
    intro t
    rw [Nat.testBit_and, Nat.testBit_two_pow, Nat.zero_testBit]
    by_cases e : s = t
    · subst e; rw [h]; rfl
    · rw [decide_eq_false e, Bool.and_false]
theorem bit_and {A s : Nat} (hA : A < 128) (hs : s < 7) : wr (band (A : Int) (bshl 1 (s : Int))) = 0 ↔ A.testBit s = false := by
  have hp : 2 ^ s < 2 ^ 7 := Nat.pow_lt_pow_right (by omega) hs
  rw [bshl_pow (by omega), wr_band hA (by omega), band_n (by omega) (by omega), ← and_pow0]
  omega
theorem p_ready_11 {S : Wd} (hO : OK S) {E h : Int} (hE : 0 ≤ E ∧ E ≤ 7) (h0 : 0 ≤ h) (h1 : h < 120) : ∀ (m n a s : Nat) (w : Wd), (s : Int) + m = S 5 0 → m < n → a < 2 ^ s → (∀ c, 2 ≤ c → c ≤ 21 → w c = S c) → (∀ t : Nat, t < nS S → bth S t = true → w 25 t = chE S E t (if t < s then h + 1 else h)) → ∃ w', x_readyAt_11 h ((com S : Nat) : Int) E n (a : Int) (s : Int) w = some (((a + maskI (rdy S E h) m s : Nat) : Int), w') ∧ (∀ c, c ≠ 25 → w' c = w c) ∧ (∀ t : Nat, t < nS S → bth S t = true → w' 25 t = chE S E t (h + 1))
  | 0, n, a, s, w, g1, g2, g3, g4, g5 => by
    obtain ⟨n, rfl⟩ : ∃ n', n = n' + 1 := ⟨n - 1, by omega⟩
    have hN := hO.1
    have hn := nS_i hO
    refine ⟨w, ?_, fun c _ => rfl, fun t ht hb => ?_⟩
    · rw [x_readyAt_11, g4 5 (by omega) (by omega), wr_id (by omega) (by omega), wr_id (by omega) (by omega), if_pos (by omega)]
      rfl
    · have := g5 t ht hb
      rw [if_pos (by omega)] at this
      exact this
  | m + 1, n, a, s, w, g1, g2, g3, g4, g5 => by
    obtain ⟨n, rfl⟩ : ∃ n', n = n' + 1 := ⟨n - 1, by omega⟩
    have hN := hO.1
    have hn := nS_i hO
    have hn7 := nS_le hO
    have hOw := OK_c hO g4
    have hcb := cbf_bd S (s : Int) h0
    have ec : ∀ s h, can w s h = can S s h := fun s h => by
      unfold can bth wayIn cross lev above
      simp (disch := omega) only [g4]
    have es : ((s : Int) + 1) = ((s + 1 : Nat) : Int) := by omega
    have skip : rdy S E h s = false → (∀ w1 : Wd, (∀ c, c ≠ 25 → w1 c = w c) → (∀ t : Nat, t < nS S → bth S t = true → w1 25 t = chE S E t (if t < s + 1 then h + 1 else h)) → ∃ w', x_readyAt_11 h ((com S : Nat) : Int) E n (a : Int) ((s : Int) + 1) w1 = some (((a + maskI (rdy S E h) (m + 1) s : Nat) : Int), w') ∧ (∀ c, c ≠ 25 → w' c = w c) ∧ (∀ t : Nat, t < nS S → bth S t = true → w' 25 t = chE S E t (h + 1))) := by
      intro hr w1 k1 k2
      obtain ⟨w', b1, b2, b3⟩ := p_ready_11 hO hE h0 h1 m n a (s + 1) w1 (by omega) (by omega) (by rw [Nat.pow_succ]; omega) (fun c x y => by rw [k1 c (by omega)]; exact g4 c x y) k2
      refine ⟨w', ?_, fun c hc => by rw [b2 c hc, k1 c hc], b3⟩
      rw [es, b1, maskI, hr, if_neg (by decide), Nat.zero_add, es]
    have hcom := com_bit S s
    rw [decide_eq_true (show s < nS S by omega), Bool.true_and] at hcom
    rw [x_readyAt_11, g4 5 (by omega) (by omega), wr_id (x := S 5 0) (by omega) (by omega), wr_id (x := (s : Int)) (by omega) (by omega), if_neg (by omega)]
    have f1 : (0 : Int) ≤ (s : Int) ∧ (s : Int) < 7 := by omega
    rw [p_canComeIn hOw f1.1 f1.2 h0 h1, ec]
    simp only [f1, and_self, if_true, Option.bind_some, wr_bz, bz_eq0, show wr 0 = 0 from rfl, show ¬ wr 1 = 0 from by decide, if_false, Int.toNat_natCast, bit_and (com_lt hO) (show s < 7 by omega), hcom]
    cases hb : bth S s
    · rw [if_pos rfl]
      have hr : rdy S E h s = false := by unfold rdy can; rw [hb]; rfl
      exact skip hr w (fun c _ => rfl) (fun t ht hbt => by
        have := g5 t ht hbt
        by_cases e : t = s
        · subst e; rw [hb] at hbt; cases hbt
        · rw [this]
          by_cases e2 : t < s
          · rw [if_pos e2, if_pos (by omega)]
          · rw [if_neg e2, if_neg (by omega)])
    · rw [if_neg (by decide)]
      have h25 := g5 s (by omega) hb
      rw [if_neg (by omega)] at h25
      have hch : 0 ≤ chE S E s h ∧ chE S E s h ≤ E := by unfold chE; split <;> omega
      rw [h25, wr_id (x := E) (by omega) (by omega), wr_id (x := chE S E s h) (by omega) (by omega)]
      by_cases d : E ≤ chE S E s h
      · rw [if_pos d]
        have hcE : ¬ cbf S s h < E := by
          intro z
          unfold chE at d
          rw [if_pos z] at d
          omega
        have hr : rdy S E h s = false := by unfold rdy; rw [decide_eq_false hcE, Bool.and_false]
        exact skip hr w (fun c _ => rfl) (fun t ht hbt => by
          have := g5 t ht hbt
          by_cases e : t = s
          · subst e
            rw [if_pos (by omega), h25]
            have hst := cbf_s (S := S) (s := (t : Int)) h0
            have hz := bz_bd (can S t h)
            unfold chE
            rw [if_neg hcE, if_neg (by omega)]
          · rw [this]
            by_cases e2 : t < s
            · rw [if_pos e2, if_pos (by omega)]
            · rw [if_neg e2, if_neg (by omega)])
      · rw [if_neg d]
        have hcE : cbf S s h < E := by
          unfold chE at d
          split at d <;> omega
        have hst := cbf_s (S := S) (s := (s : Int)) h0
        cases hca : can S s h
        · rw [if_pos rfl]
          rw [hca, show bz false = 0 from rfl, Int.add_zero] at hst
          have hr : rdy S E h s = false := by unfold rdy; rw [hca]; rfl
          exact skip hr w (fun c _ => rfl) (fun t ht hbt => by
            have := g5 t ht hbt
            by_cases e : t = s
            · subst e
              rw [if_pos (by omega), h25]
              unfold chE
              rw [hst]
            · rw [this]
              by_cases e2 : t < s
              · rw [if_pos e2, if_pos (by omega)]
              · rw [if_neg e2, if_neg (by omega)])
        · rw [if_neg (by decide)]
          rw [hca, show bz true = 1 from rfl] at hst
          have hr : rdy S E h s = true := by unfold rdy; rw [hca, decide_eq_true hcE]; rfl
          obtain ⟨w', b1, b2, b3⟩ := p_ready_11 hO hE h0 h1 m n (a + 2 ^ s) (s + 1) (wset w 25 s (chE S E s h + 1)) (by omega) (by omega) (by rw [Nat.pow_succ]; omega) (fun c x y => by rw [wset_far c (by omega)]; exact g4 c x y) (fun t ht hbt => by
            rw [wset_at]
            by_cases e : t = s
            · subst e
              rw [if_pos rfl, if_pos (by omega)]
              unfold chE
              rw [if_pos hcE]
              split <;> omega
            · rw [if_neg e, g5 t ht hbt]
              by_cases e2 : t < s
              · rw [if_pos e2, if_pos (by omega)]
              · rw [if_neg e2, if_neg (by omega)])
          refine ⟨w', ?_, fun c hc => by rw [b2 c hc, wset_far c hc], b3⟩
          rw [bor_pow (by omega) g3, es, b1, maskI, hr, if_pos rfl, Int.toNat_natCast, es]
          congr 3
          omega

/-! The class's best and mend, to their ends. -/
theorem costR_bd {S : Wd} (hO : OK S) {near : Bool} {r : Int → Int} (hr : inR S r) : 0 ≤ costR S near r ∧ costR S near r ≤ 1200000000000 := by
  have hn := nS_i hO
  rw [← scost_full]
  exact scost_bd hO hO.2.1.2 (fun s a b _ => hr s a (by omega))
theorem wrow_wset2 {w : Wd} {c k : Nat} {v : Int} {f : Nat → Int} : wrow (wset w c k v) c f = wrow w c f := wrow_wset
theorem p_berthAll_5 {S : Wd} (hO : OK S) {near : Bool} {r : Int → Int} (hr : inR S r) : ∀ (m n : Nat) (a s : Int) (w : Wd), 0 ≤ s → s + m = S 5 0 → m < n → w 5 = S 5 → w 16 = S 16 → (∀ t : Int, s ≤ t → w 14 t.toNat = S 14 t.toNat) → x_berthAll_5 (costR S near r) n a s w = some (a + sumI (fun t => bz (decide (r t ≠ S 14 t.toNat))) m s, wrow w 14 (fun k => if s ≤ (k : Int) ∧ (k : Int) < S 5 0 then r k else w 14 k))
  | 0, n, a, s, w, h0, h1, h2, h5, h16, h14 => by
    obtain ⟨n, rfl⟩ : ∃ n', n = n' + 1 := ⟨n - 1, by omega⟩
    have hN := hO.1
    rw [x_berthAll_5, h5, wr_id (by omega) (by omega), wr_id (by omega) (by omega), if_pos (by omega), wrow_self]
    · simp [sumI]
    · funext k
      rw [if_neg (by omega)]
  | m + 1, n, a, s, w, h0, h1, h2, h5, h16, h14 => by
    obtain ⟨n, rfl⟩ : ∃ n', n = n' + 1 := ⟨n - 1, by omega⟩
    have hN := hO.1
    have hQ := hO.2.1
    have hv := costR_bd hO (near := near) hr
    have hrs := hr s h0 (by omega)
    have hd := cost_digit hO (near := near) hr h0 (show s < S 5 0 by omega)
    have hs := (hO.2.2.2.2.2.1 s h0 (by omega)).2.2.2.2.2.2.2.2.1
    have hch := chz_bd hrs.1 (show r s < 4 by omega)
    have e1 : x_lowChoice (costR S near r) s 3 w = some (chz (r s), w) := by
      have := p_lowChoice (b := 3) hv.1 (by omega) h0 (show s < 7 by omega) (by omega) w
      rw [show ((3 : Nat) : Int) = 3 from rfl, show (2 : Int) ^ 3 = 8 from rfl, hd] at this
      exact this
    have e2 : qy_has (chz (r s)) w = some (bz (decide (r s ≠ -1)), w) := by
      rw [p_hasQ (by omega) (by rw [h16]; exact hQ)]
      unfold isQ chz
      rw [h16]
      by_cases c : r s = -1
      · rw [if_pos c, decide_eq_false (show ¬ (0 ≤ (4 : Int) ∧ 4 < S 16 0) by omega), decide_eq_false (by simpa using c)]
      · rw [if_neg c, decide_eq_true (show 0 ≤ r s ∧ r s < S 16 0 by omega), decide_eq_true c]
    have key : ∀ y : Int, x_berthAll_5 (costR S near r) n y (s + 1) (wset w 14 s.toNat (r s)) = some (y + sumI (fun t => bz (decide (r t ≠ S 14 t.toNat))) m (s + 1), wrow w 14 (fun k => if s ≤ (k : Int) ∧ (k : Int) < S 5 0 then r k else w 14 k)) := fun y => by
      rw [p_berthAll_5 hO hr m n y (s + 1) (wset w 14 s.toNat (r s)) (by omega) (by omega) (by omega) (by rw [wset_far 5 (by decide), h5]) (by rw [wset_far 16 (by decide), h16]) (fun t ht => by rw [wset_at, if_neg (by omega)]; exact h14 t (by omega)), wrow_wset]
      congr 3
      funext k
      rw [wset_at]
      by_cases c : s ≤ (k : Int) ∧ (k : Int) < S 5 0
      · rw [if_pos c]
        by_cases c2 : s + 1 ≤ (k : Int) ∧ (k : Int) < S 5 0
        · rw [if_pos c2]
        · rw [if_neg c2, if_pos (by omega), show s = (k : Int) by omega]
      · rw [if_neg c, if_neg (by omega), if_neg (by omega)]
    rw [x_berthAll_5, h5, e1]
    simp only [Option.bind_some]
    rw [e2]
    simp only [Option.bind_some, wr_bz, bz_eq0]
    rw [wr_id (x := S 5 0) (by omega) (by omega), wr_id (x := s) (by omega) (by omega), if_neg (by omega)]
    have f1 : 0 ≤ s ∧ s < 7 := by omega
    simp only [f1, and_self, if_true, h14 s (Int.le_refl _)]
    have fin : ∀ z : Int, z = r s → (if wr z = wr (S 14 s.toNat) then x_berthAll_5 (costR S near r) n a (s + 1) (wset w 14 s.toNat z) else x_berthAll_5 (costR S near r) n (a + 1) (s + 1) (wset w 14 s.toNat z)) = some (a + sumI (fun t => bz (decide (r t ≠ S 14 t.toNat))) (m + 1) s, wrow w 14 (fun k => if s ≤ (k : Int) ∧ (k : Int) < S 5 0 then r k else w 14 k)) := by
      rintro _ rfl
      rw [wr_id (x := r s) (by omega) (by omega), wr_id (x := S 14 s.toNat) (by omega) (by omega), key, key, sumI_s]
      by_cases c : r s = S 14 s.toNat
      · rw [if_pos c, decide_eq_false (by simpa using c)]
        rw [show bz false = 0 from rfl, Int.zero_add]
      · rw [if_neg c, decide_eq_true c, show bz true = 1 from rfl, Int.add_assoc]
    by_cases c : r s = -1
    · rw [if_pos (decide_eq_false (by simpa using c))]
      exact fin (-1) c.symm
    · rw [if_neg (by rw [decide_eq_true c]; decide)]
      have : chz (r s) = r s := by unfold chz; rw [if_neg c]
      exact fin (chz (r s)) this
def row14 (S : Wd) (r : Int → Int) : Nat → Int := fun k => if (k : Int) < S 5 0 then r k else S 14 k
def movedN (S : Wd) (r : Int → Int) : Int := cnt (fun t => decide (r t ≠ S 14 t.toNat)) (nS S)
theorem p_berthAll {S : Wd} (hO : OK S) {near : Bool} {r : Int → Int} (hr : inR S r) {w : Wd} (h5 : w 5 = S 5) (h16 : w 16 = S 16) (h14 : w 14 = S 14) : x_berthAll (costR S near r) w = some (movedN S r, wrow w 14 (row14 S r)) := by
  have hN := hO.1
  have hn := nS_i hO
  unfold x_berthAll
  rw [p_berthAll_5 hO hr (nS S) FU 0 0 w (by omega) (by omega) (by have := FU_big; omega) h5 h16 (fun t _ => by rw [h14]), Int.zero_add]
  congr 3
  funext k
  unfold row14
  rw [h14]
  by_cases c : (k : Int) < S 5 0
  · rw [if_pos c, if_pos (by omega)]
  · rw [if_neg c, if_neg (by omega)]
theorem OK_14 {S w : Wd} (hO : OK S) {r : Int → Int} (hr : inR S r) (ho : ∀ c, 2 ≤ c → c ≤ 21 → c ≠ 14 → w c = S c) (h14 : w 14 = row14 S r) : OK w := by
  unfold OK OKs OKq OKe foul at hO ⊢
  obtain ⟨c1, c2, c3, c4, c5, c6, c7, c8, c9⟩ := hO
  simp (disch := omega) only [ho, h14]
  refine ⟨c1, c2, c3, c4, c5, ?_, c7, c8, c9⟩
  intro s s0 s1
  have := c6 s s0 s1
  unfold row14
  rw [Int.toNat_of_nonneg s0]
  by_cases e : s < S 5 0
  · have h2 := hr s s0 e
    rw [if_pos e]
    omega
  · rw [if_neg e]; exact this
theorem p_best {S : Wd} (hO : OK S) : ∃ w1 r, x_best S = some (cnt (bthR r) (nS S), w1) ∧ (∀ c, c ≠ 14 → c ≠ 22 → c ≠ 23 → c ≠ 24 → w1 c = S c) ∧ w1 14 = row14 S r ∧ inR S r ∧ fitAll S false r ∧ ∀ r', inR S r' → fitAll S false r' → costR S false r ≤ costR S false r' := by
  obtain ⟨w', v, r, h1, h2, h3, h4, h5, h6⟩ := p_leastBerths hO (near := false)
  have hn := nS_i hO
  have ho : ∀ c, 2 ≤ c → c ≤ 21 → c ≠ 14 → wrow w' 14 (row14 S r) c = S c := fun c a b e => by rw [wrow_far c e, h2 c (by omega) (by omega) (by omega)]
  have hOK := OK_14 hO h3 ho wrow_here
  have hnS : nS (wrow w' 14 (row14 S r)) = nS S := by unfold nS; rw [ho 5 (by omega) (by omega) (by omega)]
  refine ⟨wrow w' 14 (row14 S r), r, ?_, fun c a b e d => by rw [wrow_far c a, h2 c b e d], wrow_here, h3, h4, fun r' a b => by rw [← h5]; exact h6 r' a b⟩
  unfold x_best
  rw [show (0 : Int) = bz false from rfl, h1]
  simp only [Option.bind_some]
  rw [h5, p_berthAll hO h3 (h2 5 (by omega) (by omega) (by omega)) (h2 16 (by omega) (by omega) (by omega)) (h2 14 (by omega) (by omega) (by omega))]
  simp only [Option.bind_some]
  rw [p_berthed hOK]
  simp only [Option.bind_some]
  rw [p_bitCount (mask128 _ (nS_le hOK))]
  simp only [Option.bind_some]
  rw [pop_mask _ (nS_le hOK), hnS]
  congr 2
  refine cnt_congr (fun k a b => ?_)
  unfold bth bthR
  rw [wrow_here]
  unfold row14
  rw [Int.toNat_of_nonneg a, if_pos (by omega)]
theorem p_mend {S : Wd} (hO : OK S) : ∃ w1 r, x_mend S = some (movedN S r, w1) ∧ (∀ c, c ≠ 14 → c ≠ 22 → c ≠ 23 → c ≠ 24 → w1 c = S c) ∧ w1 14 = row14 S r ∧ inR S r ∧ fitAll S true r ∧ ∀ r', inR S r' → fitAll S true r' → costR S true r ≤ costR S true r' := by
  obtain ⟨w', v, r, h1, h2, h3, h4, h5, h6⟩ := p_leastBerths hO (near := true)
  refine ⟨wrow w' 14 (row14 S r), r, ?_, fun c a b e d => by rw [wrow_far c a, h2 c b e d], wrow_here, h3, h4, fun r' a b => by rw [← h5]; exact h6 r' a b⟩
  unfold x_mend
  rw [show (1 : Int) = bz true from rfl, h1]
  simp only [Option.bind_some]
  rw [h5, p_berthAll hO h3 (h2 5 (by omega) (by omega) (by omega)) (h2 16 (by omega) (by omega) (by omega)) (h2 14 (by omega) (by omega) (by omega))]
  rfl
/-! which rows are fit: what the tables say, in plain words -/
theorem tog_iff {al : Nat → Bool} {fo : Nat → Nat → Bool} {sp : Nat → Int} {lg : Int} {co : Nat → Int} (hco : ∀ s, s < 7 → 0 ≤ co s) {n0 : Nat} (hn0 : n0 ≤ 7) (hmono : ∀ s r, r < 2 ^ s → s < n0 → sp r ≤ sp (2 ^ s + r)) (hcut : ∀ s, s ≤ 7 → ∀ P, P < 2 ^ s → -1 ≤ mt (gW al fo sp lg co) s P) : ∀ (s P : Nat), s ≤ n0 → P < 2 ^ s → (mt (gW al fo sp lg co) s P ≠ -1 ↔ (∀ t, t < s → P.testBit t = true → al t = true) ∧ (∀ t, t < s → P.testBit t = true → fo t (P % 2 ^ t) = true) ∧ (P = 0 ∨ sp P ≤ lg))
  | 0, P, _, h => by
    have : P = 0 := by omega
    subst this
    exact ⟨fun _ => ⟨fun t a => by omega, fun t a => by omega, Or.inl rfl⟩, fun _ => (show (0 : Int) ≠ -1 by decide)⟩
  | s + 1, P, hs, h => by
    rw [Nat.pow_succ] at h
    by_cases e : P < 2 ^ s
    · rw [mt_low e, tog_iff hco hn0 hmono hcut s P (by omega) e]
      have hb : P.testBit s = false := Nat.testBit_lt_two_pow e
      constructor
      · rintro ⟨a, b, c⟩
        refine ⟨fun t ht hp => ?_, fun t ht hp => ?_, c⟩
        · by_cases et : t = s
          · subst et; rw [hb] at hp; cases hp
          · exact a t (by omega) hp
        · by_cases et : t = s
          · subst et; rw [hb] at hp; cases hp
          · exact b t (by omega) hp
      · rintro ⟨a, b, c⟩
        exact ⟨fun t ht hp => a t (by omega) hp, fun t ht hp => b t (by omega) hp, c⟩
    · obtain ⟨r, rfl⟩ : ∃ r, P = 2 ^ s + r := ⟨P - 2 ^ s, by omega⟩
      have hr : r < 2 ^ s := by omega
      have hpos := Nat.two_pow_pos s
      have ih := tog_iff hco hn0 hmono hcut s r (by omega) hr
      have hc0 := hcut s (by omega) r hr
      have hcs := hco s (by omega)
      have hm := hmono s r hr (by omega)
      have bit_s : (2 ^ s + r).testBit s = true := by rw [Nat.testBit_two_pow_add_eq, Nat.testBit_lt_two_pow hr]; rfl
      have bit_t : ∀ t, t < s → (2 ^ s + r).testBit t = r.testBit t := fun t ht => Nat.testBit_two_pow_add_gt ht r
      have mod_s : (2 ^ s + r) % 2 ^ s = r := by rw [Nat.add_mod_left, Nat.mod_eq_of_lt hr]
      have mod_t : ∀ t, t < s → (2 ^ s + r) % 2 ^ t = r % 2 ^ t := fun t ht => by
        have : 2 ^ s = 2 ^ t * 2 ^ (s - t) := by rw [← Nat.pow_add]; congr 1; omega
        rw [this, Nat.mul_add_mod]
      rw [mt_high hr]
      generalize mt (gW al fo sp lg co) s r = X at ih hc0 ⊢
      have hg : gW al fo sp lg co s r X ≠ -1 ↔ (al s = true ∧ X ≠ -1 ∧ fo s r = true ∧ sp (2 ^ s + r) ≤ lg) := by
        unfold gW
        split
        · rename_i hh
          exact ⟨fun _ => hh, fun _ => by omega⟩
        · rename_i hh
          exact ⟨fun z => absurd rfl z, fun z => absurd z hh⟩
      rw [hg, ih]
      constructor
      · rintro ⟨a, ⟨b1, b2, b3⟩, c, d⟩
        refine ⟨fun t ht hp => ?_, fun t ht hp => ?_, Or.inr d⟩
        · by_cases et : t = s
          · subst et; exact a
          · rw [bit_t t (by omega)] at hp; exact b1 t (by omega) hp
        · by_cases et : t = s
          · subst et; rw [mod_s]; exact c
          · rw [bit_t t (by omega)] at hp; rw [mod_t t (by omega)]; exact b2 t (by omega) hp
      · rintro ⟨a, b, c⟩
        have d : sp (2 ^ s + r) ≤ lg := by
          rcases c with c | c
          · omega
          · exact c
        refine ⟨a s (by omega) bit_s, ⟨fun t ht hp => a t (by omega) (by rw [bit_t t ht]; exact hp), fun t ht hp => ?_, Or.inr (by omega)⟩, ?_, d⟩
        · have := b t (by omega) (by rw [bit_t t ht]; exact hp)
          rw [mod_t t ht] at this
          exact this
        · have := b s (by omega) bit_s
          rw [mod_s] at this
          exact this

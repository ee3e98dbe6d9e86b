/-! The tables of spans and of sets at a quay. -/
theorem p_span_47 {c3 : Int} {a : Int} {s : Nat} (hs : s < 7) (f : Nat → Int) (hf : f s = c3) (k : Wd → Option (Int × Wd)) : ∀ (m n r : Nat) (w : Wd), r + m = 2 ^ s → m < n → (∀ A, A < 2 ^ s → w 24 A = mt (gSum f) s A) → (∀ i, i < r → w 24 (2 ^ s + i) = mt (gSum f) (s + 1) (2 ^ s + i)) → ∃ w', x_measureSpans_47 a (bshl 1 (s : Int)) c3 k n (r : Int) w = k w' ∧ (∀ c, c ≠ 24 → w' c = w c) ∧ ∀ A, A < 2 ^ (s + 1) → w' 24 A = mt (gSum f) (s + 1) A
  | 0, n, r, w, h1, h2, h3, h4 => by
    obtain ⟨n, rfl⟩ : ∃ n', n = n' + 1 := ⟨n - 1, by omega⟩
    have hp := pow7 hs
    refine ⟨w, ?_, fun c _ => rfl, fun A hA => ?_⟩
    · rw [x_measureSpans_47, bshl_pow (by omega)]
      simp (disch := omega) only [wr_id]
      rw [if_pos (by omega)]
    · by_cases e : A < 2 ^ s
      · rw [mt_low e]; exact h3 A e
      · rw [Nat.pow_succ] at hA
        have := h4 (A - 2 ^ s) (by omega)
        rw [show 2 ^ s + (A - 2 ^ s) = A by omega] at this
        exact this
  | m + 1, n, r, w, h1, h2, h3, h4 => by
    obtain ⟨n, rfl⟩ : ∃ n', n = n' + 1 := ⟨n - 1, by omega⟩
    have hp := pow7 hs
    have hr : r < 2 ^ s := by omega
    have e1 : x_measureSpans_47 a (bshl 1 (s : Int)) c3 k (n + 1) (r : Int) w = x_measureSpans_47 a (bshl 1 (s : Int)) c3 k n ((r + 1 : Nat) : Int) (wset w 24 (2 ^ s + r) (mt (gSum f) s r + f s)) := by
      rw [x_measureSpans_47, bor_rest hs hr, bshl_pow (by omega)]
      simp (disch := omega) only [wr_id, Int.toNat_natCast]
      rw [if_neg (by omega), if_pos (by omega), if_pos (by omega), h3 r hr, hf]
      rfl
    obtain ⟨w', g1, g2, g3⟩ := p_span_47 hs f hf k m n (r + 1) (wset w 24 (2 ^ s + r) (mt (gSum f) s r + f s)) (by omega) (by omega)
      (fun A hA => by rw [wset_at, if_neg (by omega)]; exact h3 A hA)
      (fun i hi => by
        rw [wset_at]
        by_cases e : i = r
        · subst e; rw [if_pos rfl, mt_high hr]; rfl
        · rw [if_neg (by omega)]; exact h4 i (by omega))
    exact ⟨w', by rw [e1, g1], fun c hc => by rw [g2 c hc, wset_far c hc], g3⟩
def lng (S : Wd) (s : Int) : Int := S 6 s.toNat + S 4 3
theorem p_span_9 {S : Wd} (hO : OK S) : ∀ (m n s : Nat) (w : Wd), (s : Int) + m = S 5 0 → m < n → (∀ c, 2 ≤ c → c ≤ 21 → w c = S c) → (∀ A, A < 2 ^ s → w 24 A = mt (gSum (fun t => lng S t)) s A) → ∃ w', x_measureSpans_9 n (s : Int) w = some (0, w') ∧ (∀ c, c ≠ 24 → w' c = w c) ∧ ∀ A, A < 2 ^ nS S → w' 24 A = mt (gSum (fun t => lng S t)) (nS S) A
  | 0, n, s, w, h1, h2, h3, h4 => by
    obtain ⟨n, rfl⟩ : ∃ n', n = n' + 1 := ⟨n - 1, by omega⟩
    have hN := hO.1
    refine ⟨w, ?_, fun c _ => rfl, ?_⟩
    · rw [x_measureSpans_9, h3 5 (by omega) (by omega)]
      simp (disch := omega) only [wr_id, if_pos]
    · rw [show nS S = s by unfold nS; omega]
      exact h4
  | m + 1, n, s, w, h1, h2, h3, h4 => by
    obtain ⟨n, rfl⟩ : ∃ n', n = n' + 1 := ⟨n - 1, by omega⟩
    have hN := hO.1
    obtain ⟨w1, g1, g2, g3⟩ := p_span_47 (c3 := lng S s) (a := (s : Int)) (s := s) (by omega) (fun t => lng S t) rfl (fun w77 => x_measureSpans_9 n ((s : Int) + 1) w77) (2 ^ s) FU 0 w (by omega) (by have := pow7 (s := s) (by omega); have := FU_big; omega) h4 (fun i hi => by omega)
    obtain ⟨w', f1, f2, f3⟩ := p_span_9 hO m n (s + 1) w1 (by omega) (by omega) (fun c a b => by rw [g2 c (by omega)]; exact h3 c a b) g3
    refine ⟨w', ?_, fun c hc => by rw [f2 c hc, g2 c hc], f3⟩
    rw [x_measureSpans_9, h3 5 (by omega) (by omega), h3 6 (by omega) (by omega), h3 4 (by omega) (by omega)]
    simp (disch := omega) only [wr_id]
    rw [if_neg (by omega), if_pos (by omega)]
    rw [show ((0 : Nat) : Int) = 0 from rfl] at g1
    exact g1.trans f1
/-- together: the sum, or -1 where the set can't lie there -/
def gW (al : Nat → Bool) (fo : Nat → Nat → Bool) (sp : Nat → Int) (lg : Int) (co : Nat → Int) : Nat → Nat → Int → Int := fun s r x => if (al s = true ∧ x ≠ -1 ∧ fo s r = true ∧ sp (2 ^ s + r) ≤ lg) then x + co s else -1
theorem gW_bd {al : Nat → Bool} {fo : Nat → Nat → Bool} {sp : Nat → Int} {lg : Int} {co : Nat → Int} (hco : ∀ s, s < 7 → 0 ≤ co s ∧ co s ≤ 157000000000) : ∀ (s A : Nat), s ≤ 7 → -1 ≤ mt (gW al fo sp lg co) s A ∧ mt (gW al fo sp lg co) s A ≤ 157000000000 * (s : Int)
  | 0, A, _ => by simp [mt]
  | s + 1, A, h => by
    have h1 := hco s (by omega)
    rw [mt]
    split
    · have := gW_bd (al := al) (fo := fo) (sp := sp) (lg := lg) hco s A (by omega)
      omega
    · have hX := gW_bd (al := al) (fo := fo) (sp := sp) (lg := lg) hco s (A - 2 ^ s) (by omega)
      generalize mt (gW al fo sp lg co) s (A - 2 ^ s) = X at hX ⊢
      unfold gW
      split
      · rename_i hc
        have := hc.2.1
        omega
      · omega
theorem p_weigh_78 {a1 a2 lg c7 : Int} {s : Nat} (hs : s < 7) {al : Nat → Bool} {fo : Nat → Nat → Bool} {sp : Nat → Int} {co : Nat → Int} (hco : ∀ s, s < 7 → 0 ≤ co s ∧ co s ≤ 157000000000) (h7 : co s = c7) (hlg : R32 lg) (hsp : ∀ A, A < 128 → R32 (sp A)) {fm : Int} (hfm : 0 ≤ fm ∧ fm < 128) (hfo : ∀ r, r < 2 ^ s → fo s r = decide (band fm (r : Int) = 0)) (k : Wd → Option (Int × Wd)) : ∀ (m n r : Nat) (w : Wd), r + m = 2 ^ s → m < n → w 13 s = fm → (∀ A, A < 2 ^ (s + 1) → w 24 A = sp A) → (∀ A, A < 2 ^ s → w 23 A = mt (gW al fo sp lg co) s A) → (∀ i, i < r → w 23 (2 ^ s + i) = mt (gW al fo sp lg co) (s + 1) (2 ^ s + i)) → ∃ w', x_weighSets_78 a1 a2 lg (s : Int) (bshl 1 (s : Int)) (bz (al s)) c7 k n (r : Int) w = k w' ∧ (∀ c, c ≠ 23 → w' c = w c) ∧ ∀ A, A < 2 ^ (s + 1) → w' 23 A = mt (gW al fo sp lg co) (s + 1) A
  | 0, n, r, w, h1, h2, h5, h6, h3, h4 => by
    obtain ⟨n, rfl⟩ : ∃ n', n = n' + 1 := ⟨n - 1, by omega⟩
    have hp := pow7 hs
    refine ⟨w, ?_, fun c _ => rfl, fun A hA => ?_⟩
    · rw [x_weighSets_78, bshl_pow (by omega)]
      rw [wr_id (by omega) (by omega), wr_id (by omega) (by omega), if_pos (by omega)]
    · by_cases e : A < 2 ^ s
      · rw [mt_low e]; exact h3 A e
      · rw [Nat.pow_succ] at hA
        have := h4 (A - 2 ^ s) (by omega)
        rw [show 2 ^ s + (A - 2 ^ s) = A by omega] at this
        exact this
  | m + 1, n, r, w, h1, h2, h5, h6, h3, h4 => by
    obtain ⟨n, rfl⟩ : ∃ n', n = n' + 1 := ⟨n - 1, by omega⟩
    have hp := pow7 hs
    have hr : r < 2 ^ s := by omega
    have hb := gW_bd (al := al) (fo := fo) (sp := sp) (lg := lg) hco s r (by omega)
    have hsp1 := hsp (2 ^ s + r) (by omega)
    have e1 : x_weighSets_78 a1 a2 lg (s : Int) (bshl 1 (s : Int)) (bz (al s)) c7 k (n + 1) (r : Int) w = x_weighSets_78 a1 a2 lg (s : Int) (bshl 1 (s : Int)) (bz (al s)) c7 k n ((r + 1 : Nat) : Int) (wset w 23 (2 ^ s + r) (gW al fo sp lg co s r (mt (gW al fo sp lg co) s r))) := by
      have x23 := h3 r hr
      generalize mt (gW al fo sp lg co) s r = X at hb x23 ⊢
      rw [x_weighSets_78, bor_rest hs hr, bshl_pow (by omega)]
      simp only [Int.toNat_natCast, x23, h5, h6 (2 ^ s + r) (by rw [Nat.pow_succ]; omega), bcmp_eq0, wr_bz, bz_eq0]
      rw [wr_id (x := ((2 ^ s : Nat) : Int)) (by omega) (by omega), wr_id (x := (r : Int)) (by omega) (by omega), if_neg (by omega), wl_id (x := X) (by omega) (by omega), wl_id (x := -1) (by omega) (by omega), wr_id hlg.1 hlg.2, wr_id hsp1.1 hsp1.2]
      have f1 : (0 : Int) ≤ (r : Int) ∧ (r : Int) < 128 := by omega
      have f2 : (0 : Int) ≤ ((2 ^ s + r : Nat) : Int) ∧ ((2 ^ s + r : Nat) : Int) < 128 := by omega
      have f3 : (0 : Int) ≤ (s : Int) ∧ (s : Int) < 7 := by omega
      have f4 : fm = ((fm.toNat : Nat) : Int) := by omega
      have f5 : wr (band fm (r : Int)) = band fm (r : Int) := by rw [f4]; exact wr_band (by omega) (by omega)
      have w0 : wr 0 = 0 := rfl
      have w1 : wr 1 = 1 := rfl
      rw [f5]
      rw [if_pos f1, if_pos f3]
      simp only [f2, f1, and_self, if_true, w0, w1]
      have e0 : ((r : Int) + 1) = ((r + 1 : Nat) : Int) := by omega
      have n1 : ¬ (1 : Int) = 0 := by decide
      rw [e0]
      unfold gW
      rw [h7]
      cases ha : al s
      · rw [if_pos rfl, if_neg (fun z => by cases z.1)]
      · rw [if_neg (by decide)]
        by_cases cx : X = -1
        · rw [if_pos cx, if_neg (fun z => z.2.1 cx)]
        · rw [if_neg cx]
          by_cases cf : band fm (r : Int) = 0
          · rw [if_pos cf]
            have cf2 : fo s r = true := by rw [hfo r hr]; exact decide_eq_true cf
            by_cases cs : lg < sp (2 ^ s + r)
            · rw [if_pos cs, if_neg (fun z => by omega)]
            · rw [if_neg cs, if_neg n1, if_pos ⟨rfl, cx, cf2, by omega⟩]
          · have cf2 : fo s r = false := by rw [hfo r hr]; exact decide_eq_false cf
            rw [if_neg cf, if_neg (fun z => by rw [cf2] at z; cases z.2.2.1)]
    obtain ⟨w', g1, g2, g3⟩ := p_weigh_78 hs hco h7 hlg hsp hfm hfo k m n (r + 1) (wset w 23 (2 ^ s + r) (gW al fo sp lg co s r (mt (gW al fo sp lg co) s r))) (by omega) (by omega)
      (by rw [wset_far 13 (by decide)]; exact h5) (fun A hA => by rw [wset_far 24 (by decide)]; exact h6 A hA)
      (fun A hA => by rw [wset_at, if_neg (by omega)]; exact h3 A hA)
      (fun i hi => by
        rw [wset_at]
        by_cases e : i = r
        · subst e; rw [if_pos rfl, mt_high hr]
        · rw [if_neg (by omega)]; exact h4 i (by omega))
    exact ⟨w', by rw [e1, g1], fun c hc => by rw [g2 c hc, wset_far c hc], g3⟩
def alw (S : Wd) (q : Int) : Nat → Bool := fun s => decide (hind S s q = 0)
def fol (S : Wd) : Nat → Nat → Bool := fun s r => decide (band (S 13 s) (r : Int) = 0)
def spn (S : Wd) : Nat → Int := fun A => mt (gSum (fun t => lng S t)) (nS S) A
def tog (S : Wd) (near : Bool) (q : Int) : Nat → Int := mt (gW (alw S q) (fol S) (spn S) (S 17 q.toNat + S 4 3) (fun s => bcost S near s q)) (nS S)
theorem hind_c {w w' : Wd} (ho : ∀ c, 2 ≤ c → c ≤ 21 → w' c = w c) (s q : Int) : hind w' s q = hind w s q := by
  unfold hind afloat firstIn above wayIn cross least lev
  simp (disch := omega) only [ho]
theorem sum_mt_bd {f : Nat → Int} {hi : Int} (hf : ∀ s, s < 7 → 0 ≤ f s ∧ f s ≤ hi) : ∀ (s A : Nat), s ≤ 7 → 0 ≤ mt (gSum f) s A ∧ mt (gSum f) s A ≤ hi * (s : Int)
  | 0, A, _ => by simp [mt]
  | s + 1, A, h => by
    have h1 := hf s (by omega)
    have e2 : hi * ((s + 1 : Nat) : Int) = hi * s + hi := by rw [Int.natCast_add, Int.mul_add]; simp
    rw [mt]
    split
    · have := sum_mt_bd hf s A (by omega)
      omega
    · have := sum_mt_bd hf s (A - 2 ^ s) (by omega)
      unfold gSum at this ⊢
      omega
theorem lng_bd {S : Wd} (hO : OK S) : ∀ s : Nat, s < 7 → 0 ≤ lng S s ∧ lng S s ≤ 1300 := by
  intro s hs
  have h1 := (hO.2.2.2.2.2.1 s (by omega) (by omega)).1
  have h2 := hO.2.2.2.2.1.2.2.2.1
  unfold lng
  omega
theorem spn_bd {S : Wd} (hO : OK S) (A : Nat) : 0 ≤ spn S A ∧ spn S A ≤ 9100 := by
  have := sum_mt_bd (f := fun t => lng S t) (hi := 1300) (lng_bd hO) (nS S) A (nS_le hO)
  have := nS_le hO
  unfold spn
  omega
theorem p_weigh_30 {S : Wd} (hO : OK S) {near : Bool} {q : Int} (q0 : 0 ≤ q) (q1 : q < S 16 0) : ∀ (m n s : Nat) (w : Wd), (s : Int) + m = S 5 0 → m < n → (∀ c, 2 ≤ c → c ≤ 21 → w c = S c) → (∀ A, A < 2 ^ nS S → w 24 A = spn S A) → (∀ A, A < 2 ^ s → w 23 A = mt (gW (alw S q) (fol S) (spn S) (S 17 q.toNat + S 4 3) (fun s => bcost S near s q)) s A) → ∃ w', x_weighSets_30 q (bz near) (S 17 q.toNat + S 4 3) n (s : Int) w = some (0, w') ∧ (∀ c, c ≠ 23 → w' c = w c) ∧ ∀ A, A < 2 ^ nS S → w' 23 A = tog S near q A
  | 0, n, s, w, h1, h2, h3, h5, h4 => by
    obtain ⟨n, rfl⟩ : ∃ n', n = n' + 1 := ⟨n - 1, by omega⟩
    have hN := hO.1
    refine ⟨w, ?_, fun c _ => rfl, ?_⟩
    · rw [x_weighSets_30, h3 5 (by omega) (by omega), wr_id (by omega) (by omega), wr_id (by omega) (by omega), if_pos (by omega)]
    · unfold tog
      rw [show nS S = s by unfold nS; omega]
      exact h4
  | m + 1, n, s, w, h1, h2, h3, h5, h4 => by
    obtain ⟨n, rfl⟩ : ∃ n', n = n' + 1 := ⟨n - 1, by omega⟩
    have hN := hO.1
    have hQ := hO.2.1
    have hOw := OK_c hO h3
    have hq := (hO.2.2.2.2.2.2.1 q q0 (by omega)).1
    have he := hO.2.2.2.2.1.2.2.2.1
    have hn := nS_i hO
    have hle : 2 ^ (s + 1) ≤ 2 ^ nS S := Nat.pow_le_pow_right (by omega) (by omega)
    have hf := (hO.2.2.2.2.2.1 s (by omega) (by omega)).2.2.2.2.2.2.2.1
    have e13 : w 13 s = S 13 s := by rw [h3 13 (by omega) (by omega)]
    obtain ⟨w1, g1, g2, g3⟩ := p_weigh_78 (a1 := q) (a2 := bz near) (lg := S 17 q.toNat + S 4 3) (c7 := bcost S near s q) (s := s) (by omega) (al := alw S q) (fo := fol S) (sp := spn S) (co := fun s => bcost S near s q) (fun t ht => bcost_bd hO (by omega) (by omega) (by omega) (by omega)) rfl (by omega) (fun A _ => by have := spn_bd hO A; omega) (fm := S 13 s) hf (fun r hr => rfl) (fun w178 => x_weighSets_30 q (bz near) (S 17 q.toNat + S 4 3) n ((s : Int) + 1) w178) (2 ^ s) FU 0 w (by omega) (by have := pow7 (s := s) (by omega); have := FU_big; omega) e13 (fun A hA => h5 A (by omega)) h4 (fun i hi => by omega)
    obtain ⟨w', f1, f2, f3⟩ := p_weigh_30 hO (near := near) q0 q1 m n (s + 1) w1 (by omega) (by omega) (fun c a b => by rw [g2 c (by omega)]; exact h3 c a b) (fun A hA => by rw [g2 24 (by omega)]; exact h5 A hA) g3
    refine ⟨w', ?_, fun c hc => by rw [f2 c hc, g2 c hc], f3⟩
    have hh := hind_bd S s q
    rw [x_weighSets_30, h3 5 (by omega) (by omega), p_hind hOw (by omega) (by omega) q0 (by omega), hind_c h3]
    simp only [Option.bind_some]
    rw [p_berthCost hOw (by omega) (by omega) (by omega) (by rw [h3 16 (by omega) (by omega)]; omega), bcost_c h3]
    simp only [Option.bind_some]
    rw [wr_id (x := S 5 0) (by omega) (by omega), wr_id (x := (s : Int)) (by omega) (by omega), if_neg (by omega), wr_id (x := hind S s q) (by omega) (by omega)]
    rw [show ((0 : Nat) : Int) = 0 from rfl] at g1
    have g4 := g1.trans f1
    by_cases c : hind S s q = 0
    · rw [show alw S q s = true from decide_eq_true c] at g4
      rw [if_pos c]
      exact g4
    · rw [show alw S q s = false from decide_eq_false c] at g4
      rw [if_neg c]
      exact g4
theorem p_weigh {S : Wd} (hO : OK S) {near : Bool} {q : Int} (q0 : 0 ≤ q) (q1 : q < S 16 0) {w : Wd} (h3 : ∀ c, 2 ≤ c → c ≤ 21 → w c = S c) (h5 : ∀ A, A < 2 ^ nS S → w 24 A = spn S A) : ∃ w', x_weighSets q (bz near) w = some (0, w') ∧ (∀ c, c ≠ 23 → w' c = w c) ∧ ∀ A, A < 2 ^ nS S → w' 23 A = tog S near q A := by
  have hN := hO.1
  have hQ := hO.2.1
  have hn := nS_i hO
  obtain ⟨w', f1, f2, f3⟩ := p_weigh_30 hO (near := near) q0 q1 (nS S) FU 0 (wset w 23 0 0) (by omega) (by have := FU_big; omega) (fun c a b => by rw [wset_far c (by omega)]; exact h3 c a b) (fun A hA => by rw [wset_far 24 (by omega)]; exact h5 A hA) (fun A hA => by
    have : A = 0 := by omega
    subst this
    rw [wset_at, if_pos rfl]; rfl)
  refine ⟨w', ?_, fun c hc => by rw [f2 c hc, wset_far c hc], f3⟩
  unfold x_weighSets
  rw [if_pos (by omega), h3 17 (by omega) (by omega), h3 4 (by omega) (by omega)]
  rw [show ((0 : Nat) : Int) = 0 from rfl] at f1
  exact f1

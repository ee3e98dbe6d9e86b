/-! What the calls mean, in words over the class's own cells; the bounds; the reference's cells beside them. -/
def sumI (f : Int → Int) : Nat → Int → Int
  | 0, _ => 0
  | m + 1, i => f i + sumI f m (i + 1)
def findI (p : Int → Bool) : Nat → Int → Int
  | 0, _ => -1
  | m + 1, i => if p i then i else findI p m (i + 1)
def minI (f : Int → Int) : Nat → Int → Int → Int
  | 0, _, a => a
  | m + 1, i, a => minI f m (i + 1) (if f i < a then f i else a)
def maxI (f : Int → Int) : Nat → Int → Int → Int
  | 0, _, a => a
  | m + 1, i, a => maxI f m (i + 1) (if a < f i then f i else a)
def maskI (p : Int → Bool) : Nat → Int → Nat
  | 0, _ => 0
  | m + 1, i => (if p i then 2 ^ i.toNat else 0) + maskI p m (i + 1)
abbrev R32 (a : Int) : Prop := -2147483648 ≤ a ∧ a ≤ 2147483647
/-- the bounds of the class's own cells -/
def OKs (S : Wd) (s : Int) : Prop := (0 ≤ S 6 s.toNat ∧ S 6 s.toNat ≤ 1200) ∧ (0 ≤ S 7 s.toNat ∧ S 7 s.toNat ≤ 120) ∧ (0 ≤ S 8 s.toNat ∧ S 8 s.toNat ≤ 700) ∧ (0 ≤ S 9 s.toNat ∧ S 9 s.toNat ≤ 100) ∧ (0 ≤ S 10 s.toNat ∧ S 10 s.toNat ≤ 3) ∧ (0 ≤ S 11 s.toNat ∧ S 11 s.toNat ≤ 119) ∧ (0 ≤ S 12 s.toNat ∧ S 12 s.toNat ≤ 60) ∧ (0 ≤ S 13 s.toNat ∧ S 13 s.toNat < 128) ∧ (-1 ≤ S 14 s.toNat ∧ S 14 s.toNat < S 16 0) ∧ (-1 ≤ S 15 s.toNat ∧ S 15 s.toNat ≤ 119) ∧ (S 5 0 ≤ s → S 14 s.toNat = -1 ∧ S 15 s.toNat = -1)
def OKq (S : Wd) (q : Int) : Prop := (0 ≤ S 17 q.toNat ∧ S 17 q.toNat ≤ 4000) ∧ (0 ≤ S 18 q.toNat ∧ S 18 q.toNat ≤ 200) ∧ (S 19 q.toNat = 0 ∨ S 19 q.toNat = 1) ∧ (0 ≤ S 20 q.toNat ∧ S 20 q.toNat ≤ 10) ∧ (0 ≤ S 21 q.toNat ∧ S 21 q.toNat ≤ 120)
def OKe (S : Wd) : Prop := (0 ≤ S 4 0 ∧ S 4 0 ≤ 200) ∧ (0 ≤ S 4 1 ∧ S 4 1 ≤ 900) ∧ (0 ≤ S 4 2 ∧ S 4 2 ≤ 20) ∧ (0 ≤ S 4 3 ∧ S 4 3 ≤ 100) ∧ (0 ≤ S 4 4 ∧ S 4 4 ≤ 100)
def foul (S : Wd) (s t : Int) : Bool := (S 13 s.toNat).toNat.testBit t.toNat
def OK (S : Wd) : Prop := (0 ≤ S 5 0 ∧ S 5 0 ≤ 7) ∧ (0 ≤ S 16 0 ∧ S 16 0 ≤ 4) ∧ (∀ k : Int, 0 ≤ k → k < 12 → 0 ≤ S 2 k.toNat ∧ S 2 k.toNat ≤ 80) ∧ (∀ k : Int, 0 ≤ k → k < 120 → 0 ≤ S 3 k.toNat ∧ S 3 k.toNat ≤ 9) ∧ OKe S ∧ (∀ s : Int, 0 ≤ s → s < 7 → OKs S s) ∧ (∀ q : Int, 0 ≤ q → q < 4 → OKq S q) ∧ (∀ s t : Int, 0 ≤ s → s < 7 → 0 ≤ t → t < 7 → foul S s t = foul S t s) ∧ (∀ s : Int, 0 ≤ s → s < 7 → foul S s s = false)
/-- the reference's cells of w hold what the class's cells of S hold -/
def RMs (S w : Wd) (s : Int) : Prop := w 30 (7 * s).toNat = S 6 s.toNat ∧ w 30 (7 * s + 1).toNat = S 7 s.toNat ∧ w 30 (7 * s + 2).toNat = S 8 s.toNat ∧ w 30 (7 * s + 3).toNat = S 9 s.toNat ∧ w 30 (7 * s + 4).toNat = S 10 s.toNat ∧ w 30 (7 * s + 5).toNat = S 11 s.toNat ∧ w 30 (7 * s + 6).toNat = S 12 s.toNat
def RMq (S w : Wd) (q : Int) : Prop := w 31 (5 * q).toNat = S 17 q.toNat ∧ w 31 (5 * q + 1).toNat = S 18 q.toNat ∧ w 31 (5 * q + 2).toNat = S 19 q.toNat ∧ w 31 (5 * q + 3).toNat = S 20 q.toNat ∧ w 31 (5 * q + 4).toNat = S 21 q.toNat
def RM (S w : Wd) : Prop := w 26 4 = S 5 0 ∧ w 26 6 = S 16 0 ∧ (∀ k : Int, 0 ≤ k → k < 12 → w 27 k.toNat = S 2 k.toNat) ∧ (∀ k : Int, 0 ≤ k → k < 5 → w 28 k.toNat = S 4 k.toNat) ∧ (∀ k : Int, 0 ≤ k → k < 120 → w 29 k.toNat = S 3 k.toNat) ∧ (∀ s : Int, 0 ≤ s → s < S 5 0 → RMs S w s) ∧ (∀ q : Int, 0 ≤ q → q < S 16 0 → RMq S w q) ∧ (∀ s t : Int, 0 ≤ s → s < 7 → 0 ≤ t → t < 7 → w 32 (7 * s + t).toNat = if foul S s t then 1 else 0) ∧ (∀ s : Int, 0 ≤ s → s < 7 → w 33 s.toNat = S 14 s.toNat ∧ w 34 s.toNat = S 15 s.toNat)
/-! words -/
def isS (S : Wd) (s : Int) : Bool := decide (0 ≤ s ∧ s < S 5 0)
def isQ (S : Wd) (q : Int) : Bool := decide (0 ≤ q ∧ q < S 16 0)
def isH (h : Int) : Bool := decide (0 ≤ h ∧ h < 120)
def lev (S : Wd) (h : Int) : Int := S 2 (h % 12).toNat
def least (S : Wd) : Int := minI (fun k => S 2 k.toNat) 12 0 80
def great (S : Wd) : Int := maxI (fun k => S 2 k.toNat) 12 0 0
def cross (S : Wd) (s h : Int) : Bool := decide (S 7 s.toNat + S 4 2 ≤ S 4 0 + lev S h)
def wayIn (S : Wd) (s h : Int) (ab : Bool) : Bool := cross S s h && (!ab || decide (S 8 s.toNat + lev S h + S 4 2 ≤ S 4 1))
def firstIn (S : Wd) (s h : Int) (ab : Bool) : Int := findI (fun k => wayIn S s k ab) (120 - h).toNat h
def above (S : Wd) (q : Int) : Bool := decide (S 19 q.toNat = 1)
def afloat (S : Wd) (s q : Int) : Bool := decide (S 7 s.toNat + S 4 2 ≤ S 18 q.toNat + least S)
def hind (S : Wd) (s q : Int) : Int := if afloat S s q then (if firstIn S s (S 11 s.toNat) (above S q) = -1 then 2 else 0) else 1
def bz (b : Bool) : Int := if b then 1 else 0
theorem bz_01 (b : Bool) : bz b = 0 ∨ bz b = 1 := by cases b <;> simp [bz]
theorem wr_bz (b : Bool) : wr (bz b) = bz b := by cases b <;> rfl
theorem bz_eq0 {b : Bool} : bz b = 0 ↔ b = false := by cases b <;> simp [bz]
/-! the class -/
theorem p_within {a b c : Int} {w : Wd} (ha : R32 a) (hb : R32 b) (hc : R32 c) : x_within a b c w = some (bz (decide (b ≤ a ∧ a ≤ c)), w) := by
  unfold x_within
  simp (disch := omega) only [wr_id]
  by_cases h1 : a < b
  · rw [if_pos h1, decide_eq_false (by omega)]; rfl
  · rw [if_neg h1]
    by_cases h2 : c < a
    · rw [if_pos h2, decide_eq_false (by omega)]; rfl
    · rw [if_neg h2, decide_eq_true (by omega)]; rfl
theorem p_isHour {a : Int} {w : Wd} (ha : R32 a) : x_isHour a w = some (bz (isH a), w) := by
  unfold x_isHour
  rw [p_within ha (by decide) (by decide)]
  simp only [Option.bind_some]
  rw [if_pos (bz_01 _), show decide (0 ≤ a ∧ a ≤ 119) = isH a by unfold isH; congr 1; exact propext ⟨fun h => by omega, fun h => by omega⟩]
theorem p_has {a : Int} {w : Wd} (ha : R32 a) (hw : 0 ≤ w 5 0 ∧ w 5 0 ≤ 7) : fl_has a w = some (bz (isS w a), w) := by
  unfold fl_has isS
  simp (disch := omega) only [wr_id]
  by_cases h1 : a < 0
  · rw [if_pos h1, decide_eq_false (by omega)]; rfl
  · rw [if_neg h1]
    by_cases h2 : w 5 0 ≤ a
    · rw [if_pos h2, decide_eq_false (by omega)]; rfl
    · rw [if_neg h2, decide_eq_true (by omega)]; rfl
theorem p_hasQ {a : Int} {w : Wd} (ha : R32 a) (hw : 0 ≤ w 16 0 ∧ w 16 0 ≤ 4) : qy_has a w = some (bz (isQ w a), w) := by
  unfold qy_has isQ
  simp (disch := omega) only [wr_id]
  by_cases h1 : a < 0
  · rw [if_pos h1, decide_eq_false (by omega)]; rfl
  · rw [if_neg h1]
    by_cases h2 : w 16 0 ≤ a
    · rw [if_pos h2, decide_eq_false (by omega)]; rfl
    · rw [if_neg h2, decide_eq_true (by omega)]; rfl
theorem p_level {h : Int} {w : Wd} (h0 : 0 ≤ h) (h1 : h ≤ 1000) : rv_levelAt h w = some (lev w h, w) := by
  unfold rv_levelAt lev
  rw [brem_id h0 (by omega) (by omega) (by omega), if_pos (by omega)]
theorem p_least_5 {w : Wd} (hO : ∀ k : Int, 0 ≤ k → k < 12 → 0 ≤ w 2 k.toNat ∧ w 2 k.toNat ≤ 80) : ∀ (m n : Nat) (a i : Int), 0 ≤ i → i + m = 12 → m < n → 0 ≤ a → a ≤ 80 → rv_leastLevel_5 n a i w = some (minI (fun k => w 2 k.toNat) m i a, w)
  | 0, n, a, i, h0, h1, h2, h3, h4 => by
    obtain ⟨n, rfl⟩ : ∃ n', n = n' + 1 := ⟨n - 1, by omega⟩
    rw [rv_leastLevel_5]
    simp (disch := omega) only [wr_id, if_pos]
    rfl
  | m + 1, n, a, i, h0, h1, h2, h3, h4 => by
    obtain ⟨n, rfl⟩ : ∃ n', n = n' + 1 := ⟨n - 1, by omega⟩
    have hk := hO i h0 (by omega)
    rw [rv_leastLevel_5]
    have e : imin a (w 2 i.toNat) = if w 2 i.toNat < a then w 2 i.toNat else a := by
      unfold imin
      simp (disch := omega) only [wr_id]
    simp (disch := omega) only [wr_id, if_pos, if_neg]
    rw [e, p_least_5 hO m n _ (i + 1) (by omega) (by omega) (by omega) (by split <;> omega) (by split <;> omega)]
    rfl
theorem p_least {w : Wd} (hO : ∀ k : Int, 0 ≤ k → k < 12 → 0 ≤ w 2 k.toNat ∧ w 2 k.toNat ≤ 80) : rv_leastLevel w = some (least w, w) := by
  unfold rv_leastLevel
  exact p_least_5 hO 12 FU 80 0 (by omega) (by omega) (by have := FU_big; omega) (by omega) (by omega)

/-! The first world of the law: both sides hold the same. -/
def wF (w : Wd) : Wd := wz (wiX4 (wz (wiX3 (wz w 0)) 26)) 40
theorem wF_0 (w : Wd) (c : Nat) (hc : c = 2 ∨ (6 ≤ c ∧ c ≤ 13) ∨ (17 ≤ c ∧ c ≤ 21) ∨ c = 27 ∨ c = 30 ∨ c = 31 ∨ c = 32) (k : Nat) : wF w c k = 0 := by
  have : c = 2 ∨ c = 6 ∨ c = 7 ∨ c = 8 ∨ c = 9 ∨ c = 10 ∨ c = 11 ∨ c = 12 ∨ c = 13 ∨ c = 17 ∨ c = 18 ∨ c = 19 ∨ c = 20 ∨ c = 21 ∨ c = 27 ∨ c = 30 ∨ c = 31 ∨ c = 32 := by omega
  rcases this with rfl | rfl | rfl | rfl | rfl | rfl | rfl | rfl | rfl | rfl | rfl | rfl | rfl | rfl | rfl | rfl | rfl | rfl <;> simp [wF, wiX4, wiX3, wiX2, wiX1, wiX0, wz, wset, wfill]
theorem wF_5 (w : Wd) : wF w 5 0 = 0 := by simp [wF, wiX4, wiX3, wiX2, wiX1, wiX0, wz, wset, wfill]
theorem wF_16 (w : Wd) : wF w 16 0 = 0 := by simp [wF, wiX4, wiX3, wiX2, wiX1, wiX0, wz, wset, wfill]
theorem wF_264 (w : Wd) : wF w 26 4 = 0 := by simp [wF, wiX4, wiX3, wiX2, wiX1, wiX0, wz, wset, wfill]
theorem wF_266 (w : Wd) : wF w 26 6 = 0 := by simp [wF, wiX4, wiX3, wiX2, wiX1, wiX0, wz, wset, wfill]
theorem wF_t (w : Wd) (c : Nat) (hc : c = 3 ∨ c = 29) (k : Nat) : wF w c k = if k < 120 then 2 else 0 := by
  rcases hc with rfl | rfl <;> simp [wF, wiX4, wiX3, wiX2, wiX1, wiX0, wz, wset, wfill]
theorem wF_b (w : Wd) (c : Nat) (hc : c = 14 ∨ c = 15 ∨ c = 33 ∨ c = 34) (k : Nat) : wF w c k = if k < 7 then -1 else 0 := by
  rcases hc with rfl | rfl | rfl | rfl <;> simp [wF, wiX4, wiX3, wiX2, wiX1, wiX0, wz, wset, wfill]
theorem wF_s (w : Wd) (c : Nat) (hc : c = 4 ∨ c = 28) : wF w c 0 = 40 ∧ wF w c 1 = 500 ∧ wF w c 2 = 5 ∧ wF w c 3 = 10 ∧ wF w c 4 = 40 := by
  rcases hc with rfl | rfl <;> simp [wF, wiX4, wiX3, wiX2, wiX1, wiX0, wz, wset, wfill]

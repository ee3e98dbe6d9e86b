/-! The first world of the law: both sides hold the same. -/
def wF (w : Wd) : Wd := wz (wiX4 (wz (wiX3 (wz w 0)) 26)) 40
theorem wF_0 (w : Wd) (c : Nat) (hc : c = 2 ∨ (6 ≤ c ∧ c ≤ 13) ∨ (17 ≤ c ∧ c ≤ 21) ∨ c = 27 ∨ c = 30 ∨ c = 31 ∨ c = 32) (k : Nat) : wF w c k = 0 := by
  have : c = 2 ∨ c = 6 ∨ c = 7 ∨ c = 8 ∨ c = 9 ∨ c = 10 ∨ c = 11 ∨ c = 12 ∨ c = 13 ∨ c = 17 ∨ c = 18 ∨ c = 19 ∨ c = 20 ∨ c = 21 ∨ c = 27 ∨ c = 30 ∨ c = 31 ∨ c = 32 := by omega
  rcases this with rfl | rfl | rfl | rfl | rfl | rfl | rfl | rfl | rfl | rfl | rfl | rfl | rfl | rfl | rfl | rfl | rfl | rfl <;> simp [wF, wiX4, wiX3, wiX2, wiX1, wiX0, wz, wset, wfill]
theorem wF_5 (w : Wd) : wF w 5 0 = 0 := by simp [wF, wiX4, wiX3, wiX2, wiX1, wiX0, wz, wset, wfill]
theorem wF_16 (w : Wd) : wF w 16 0 = 0 := by simp [wF, wiX4, wiX3, wiX2, wiX1, wiX0, wz, wset, wfill]
theorem wF_264 (w : Wd) : wF w 26 4 = 0 := by simp [wF, wiX4, wiX3, wiX2, wiX1, wiX0, wz, wset, wfill]
theorem wF_266 (w : Wd) : wF w 26 6 = 0 := by simp [wF, wiX4, wiX3, wiX2, wiX1, wiX0, wz, wset, wfill]
theorem wF_t (w : Wd) (c : Nat) (hc : c = 3 ∨ c = 29) (k : Nat) : wF w c k = if k < 120 then 2 else 0 := by
  rcases hc with rfl | rfl <;> simp [wF, wiX4, wiX3, wiX2, wiX1, wiX0, wz, wset, wfill]
theorem wF_b (w : Wd) (c : Nat) (hc : c = 14 ∨ c = 15 ∨ c = 33 ∨ c = 34) (k : Nat) : wF w c k = if k < 7 then -1 else 0 := by
  rcases hc with rfl | rfl | rfl | rfl <;> simp [wF, wiX4, wiX3, wiX2, wiX1, wiX0, wz, wset, wfill]
theorem wF_s (w : Wd) (c : Nat) (hc : c = 4 ∨ c = 28) : wF w c 0 = 40 ∧ wF w c 1 = 500 ∧ wF w c 2 = 5 ∧ wF w c 3 = 10 ∧ wF w c 4 = 40 := by
  rcases hc with rfl | rfl <;> simp [wF, wiX4, wiX3, wiX2, wiX1, wiX0, wz, wset, wfill]
theorem Rel_first (w : Wd) : Rel (wF w) := by
  have z := fun c hc k => wF_0 w c hc k
  have e5 := wF_5 w
  have e16 := wF_16 w
  have t3 := wF_t w 3 (by omega)
  have t29 := wF_t w 29 (by omega)
  have b14 := wF_b w 14 (by omega)
  have b15 := wF_b w 15 (by omega)
  have b33 := wF_b w 33 (by omega)
  have b34 := wF_b w 34 (by omega)
  have s4 := wF_s w 4 (by omega)
  have s28 := wF_s w 28 (by omega)
  have fz : ∀ s t : Int, foul (wF w) s t = false := fun s t => by
    unfold foul
    rw [z 13 (by omega)]
    simp
  refine ⟨⟨by omega, by omega, ?_, ?_, ?_, ?_, ?_, fun s t _ _ _ _ => by rw [fz, fz], fun s _ _ => fz s s⟩, ⟨by rw [wF_264, e5], by rw [wF_266, e16], ?_, ?_, ?_, ?_, ?_, ?_, ?_⟩⟩
  · intro k k0 k1
    rw [z 2 (by omega)]; omega
  · intro k k0 k1
    rw [t3, if_pos (by omega)]; omega
  · unfold OKe
    rw [s4.1, s4.2.1, s4.2.2.1, s4.2.2.2.1, s4.2.2.2.2]
    omega
  · intro s s0 s1
    unfold OKs
    rw [z 6 (by omega), z 7 (by omega), z 8 (by omega), z 9 (by omega), z 10 (by omega), z 11 (by omega), z 12 (by omega), z 13 (by omega), b14, b15, e16, if_pos (by omega)]
    omega
  · intro q q0 q1
    unfold OKq
    rw [z 17 (by omega), z 18 (by omega), z 19 (by omega), z 20 (by omega), z 21 (by omega)]
    omega
  · intro k k0 k1
    rw [z 27 (by omega), z 2 (by omega)]
  · intro k k0 k1
    have : k = 0 ∨ k = 1 ∨ k = 2 ∨ k = 3 ∨ k = 4 := by omega
    rcases this with rfl | rfl | rfl | rfl | rfl
    · exact s28.1.trans s4.1.symm
    · exact s28.2.1.trans s4.2.1.symm
    · exact s28.2.2.1.trans s4.2.2.1.symm
    · exact s28.2.2.2.1.trans s4.2.2.2.1.symm
    · exact s28.2.2.2.2.trans s4.2.2.2.2.symm
  · intro k k0 k1
    rw [t3, t29]
  · intro s s0 s1
    omega
  · intro q q0 q1
    omega
  · intro s t _ _ _ _
    rw [z 32 (by omega), fz]
    rfl
  · intro s s0 s1
    rw [b14, b15, b33, b34]
    exact ⟨rfl, rfl⟩

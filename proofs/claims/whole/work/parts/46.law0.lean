/-! The law: at agrees; the call of its own at; the first world. -/
section LawRows
variable {κ : KX} {D : CX} {ad : Nat → Nat} {n1 n2 : Nat} {w : Wd} {pc : Nat} {ls : List (Nat × Value)} {st : List Value} {cc : ByteArray} {rm : Room} {lc : Launch} {L : Nat}
theorem w_L70 : Cond.methodLink RL 70 yL_at ∈ Wu := wq 465 (by decide +kernel) (by decide +kernel)
theorem w_Ls : Cond.static yL_at ∈ Wu := wq 466 (by decide +kernel) (by decide +kernel)
theorem wu_goodW {w : Cond} (h : w ∈ Wu) : w ∈ Wu ∧ ((w.onTables && w.keeps) = true ∨ ∃ ty, w = .arrayClass ty) := ⟨h, good_of_word (List.mem_filter.mp h).2⟩
theorem g_callL (X : gX κ D cc RL rm lc L) {a r : Int} {sa : Nat} {w' : Wd} (hk : gE κ (Et sa)) (hi : Cond.initialized RL ∈ Wu)
    (hM : ∀ sz, Met lc yL_at (Cond.codeWith yL_at cL_at 4 (some .int) hhL :: Wu) rmL (PmE (Et sa) D LAY ad [.ref (ad 0), iv a, .ref (ad 40)] w sz) (Qm D LAY ad (some (iv r)) w' sz) 1 6 (aF ad 41 sz))
    (hR : 8 ≤ rm.frames ∧ 143 ≤ rm.locals) (hf : n1 + 1 ≤ rm.cells ∧ n2 + 6 ≤ rm.slots) (hcat : (st.map fun v => v.category).sum ≤ 8) (hd : decode cc pc = .ok (.invokestatic 70, 3))
    (k : G κ D LAY ad (n1 + 1) (n2 + 6) w' (pc + 3) ls (iv r :: st)) : G κ D LAY ad n1 n2 w pc ls (.ref (ad 40) :: iv a :: .ref (ad 0) :: st) := by
  obtain ⟨p, l, e0, R, s, m, args, below, meth, cd, Q, A, H0, nL⟩ := κ
  obtain ⟨hx, hb, hml, hown, hts, hK, hlocks, hA, rfl, rfl, rfl⟩ := X
  intro H locs la hP hD hS hl
  exact g_run (vx_runSW (As := [.ref (ad 0), iv a, .ref (ad 40)]) (rest := st) ⟨hx, hb, hml, hown, hts⟩ (hM H.size)
    (vx_cwSW 3 hts (fun w hw => by
      unfold va_wsS at hw
      rcases List.mem_append.mp hw with h | h
      · simp only [List.mem_cons, List.not_mem_nil, or_false] at h
        rcases h with rfl | rfl | rfl
        · exact wu_goodW w_L70
        · exact wu_goodW w_Ls
        · exact wu_goodW hi
      · rcases List.mem_cons.mp h with rfl | h
        · exact wu_goodW w_Lat
        · exact wu_goodW h) rfl rfl rfl ⟨by decide +kernel, by decide +kernel, by decide +kernel⟩ ⟨hR.1, hR.2⟩)
    ⟨PmE_blind (Et_ok sa), fun U hU hW => ⟨⟨rfl, by rw [hU], by rw [hU]; exact hP, va_K.moved hW.alike hK, hD.weaken (fun _ _ _ _ => trivial)⟩, E_at (lay := LAY) (Et_ok sa) hk.1 hS hA hD hU hW⟩⟩ rfl rfl hl.1 rfl (lv_room hcat) hd hf) hA hD hS hl k
end LawRows
theorem a_at {w : Wd} (h : Rel w) {a : Int} (ra : R32 a) : ∃ (r b : Int) (w1 w2 : Wd), ((isS w a = true ∧ r = 0 ∧ w1 = wset w 40 0 (w 14 a.toNat)) ∨ (isS w a = false ∧ r = 1 ∧ w1 = w)) ∧ m_at a w1 = some (b, w2) ∧ w2 26 10 = r ∧ (r = 0 → w2 40 0 = b) ∧ (-1 ≤ b ∧ b ≤ 4) ∧ Rel w2 := by
  have hN := h.1.1
  have hQ := h.1.2.1
  cases hs : isS w a
  · refine ⟨1, 0, w, wset (wset w 26 10 0) 26 10 1, Or.inr ⟨rfl, rfl, rfl⟩, ?_, rfl, (fun z => absurd z (by decide)), (by omega), Rel_t (Rel_t h 0) 1⟩
    unfold m_at
    rw [q_isShip h.1 (RM_t h.2 0) ra, hs]
    rfl
  · have hs2 : 0 ≤ a ∧ a < w 5 0 := of_decide_eq_true hs
    have hb := (h.1.2.2.2.2.2.1 a hs2.1 (by omega)).2.2.2.2.2.2.2.2.1
    have e33 := (h.2.2.2.2.2.2.2.2.2 a hs2.1 (by omega)).1
    have hR1 : Rel (wset w 40 0 (w 14 a.toNat)) := Rel_far h (fun c a b => wset_far c (by omega)) (fun c a b => wset_far c (by omega)) ⟨rfl, rfl⟩
    refine ⟨0, w 14 a.toNat, wset w 40 0 (w 14 a.toNat), wset (wset w 40 0 (w 14 a.toNat)) 26 10 0, Or.inl ⟨rfl, rfl, rfl⟩, ?_, rfl, (fun _ => rfl), (by omega), Rel_t hR1 0⟩
    unfold m_at
    rw [q_isShip hR1.1 (RM_t hR1.2 0) ra, show isS (wset w 40 0 (w 14 a.toNat)) a = true from hs]
    show (if 0 ≤ a ∧ a < 7 then _ else none) = _
    rw [if_pos (by omega)]
    show some (w 33 a.toNat, _) = _
    rw [e33]

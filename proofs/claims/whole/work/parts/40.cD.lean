/-! THE CLASS: calls that ask or put a little -/
theorem zsw_j {j t dt : Nat} {hi : Int} {ts : List Nat} (hj : j < 2 ^ 31) (h : (j : Int) ≤ hi) : zsw (nI j) 0 hi ts dt = ts.getD j dt := by
  unfold zsw
  rw [nI_toInt hj, if_neg (by omega)]
  congr 1
theorem zsw_0 {t0 dt : Nat} {hi : Int} {ts : List Nat} (h : 0 ≤ hi) : zsw (nI 0) 0 hi (t0 :: ts) dt = t0 := zsw_j (t := 0) (by decide) h
theorem zsw_1 {t0 t1 dt : Nat} {hi : Int} {ts : List Nat} (h : 1 ≤ hi) : zsw (nI 1) 0 hi (t0 :: t1 :: ts) dt = t1 := zsw_j (t := 0) (by decide) h
theorem zsw_2 {t0 t1 t2 dt : Nat} {hi : Int} {ts : List Nat} (h : 2 ≤ hi) : zsw (nI 2) 0 hi (t0 :: t1 :: t2 :: ts) dt = t2 := zsw_j (t := 0) (by decide) h
theorem zsw_3 {t0 t1 t2 t3 dt : Nat} {hi : Int} {ts : List Nat} (h : 3 ≤ hi) : zsw (nI 3) 0 hi (t0 :: t1 :: t2 :: t3 :: ts) dt = t3 := zsw_j (t := 0) (by decide) h
theorem zsw_d {v : Int32} {dt : Nat} {hi : Int} {ts : List Nat} (h : ¬ (0 ≤ v.toInt ∧ v.toInt ≤ hi)) : zsw v 0 hi ts dt = dt := if_pos (by omega)
section S
variable {d : Nat} {Q : zPo} {σ : zSh} {ρ : zRf} {I : zIm} {L : zLm} {b x : Bool} {T : zT} {S : zU} {l : Int32}
theorem c_place {p what : Int32} (hT : zTc T b I) : zW (d + 2) mX10_place [.ref 0, .int p, .int what] sg (rg b) I L Q = Q (some (.int (r_place T p what))) sg (rg b) I L := by
  obtain ⟨⟨h0, h1, h2, h3, h4⟩, h5, h6, h7⟩ := hT
  unfold r_place
  by_cases hp : 0 ≤ p.toInt ∧ p.toInt < ((tpn T).val : Int)
  · rw [if_pos hp]
    obtain ⟨j, hj, rfl⟩ := v_of (by omega) hp
    obtain ⟨e1, e2, e3⟩ := h5 j hj
    have h64 := tnw_64 T j
    simp (disch := omega) only [nI_toInt, Int.toNat_natCast]
    by_cases hw : 0 ≤ what.toInt ∧ what.toInt < ((3 : Nat) : Int)
    · obtain ⟨w, hw, rfl⟩ := v_of (by omega) hw
      have : w = 0 ∨ w = 1 ∨ w = 2 := by omega
      rcases this with rfl | rfl | rfl <;> simp (disch := omega) only [nX10_place, bX10_place, zZ, zsw_0, zsw_1, zsw_2, k_isPlace h0, h4, e1, if_pos, if_neg]
      split <;> rfl
    · simp (disch := omega) only [nX10_place, bX10_place, zZ, zsw_d, k_isPlace h0, zV3, if_pos, if_neg]
  · rw [if_neg hp]
    simp (disch := omega) only [nX10_place, bX10_place, zZ, k_isPlace h0, zV3, if_pos, if_neg]
theorem c_seeker {k what : Int32} (hT : zTc T b I) (hS : zSk T S l 0 I) : zW (d + 2) mX10_seeker [.ref 0, .int k, .int what] sg (rg b) I L Q = Q (some (.int (r_seeker T S k what))) sg (rg b) I L := by
  obtain ⟨⟨h0, h1, h2, h3, h4⟩, h5, h6, h7⟩ := hT
  obtain ⟨⟨g0, g1, g2, g3⟩, g4, g5⟩ := hS
  unfold r_seeker
  by_cases hp : 0 ≤ k.toInt ∧ k.toInt < ((tsn T).val : Int)
  · rw [if_pos hp]
    obtain ⟨j, hj, rfl⟩ := v_of (by omega) hp
    obtain ⟨e1, e2, e3⟩ := h7 j hj
    obtain ⟨f1, f2⟩ := g4 j (by omega)
    simp (disch := omega) only [nI_toInt, Int.toNat_natCast]
    by_cases hw : 0 ≤ what.toInt ∧ what.toInt < ((4 : Nat) : Int)
    · obtain ⟨w, hw, rfl⟩ := v_of (by omega) hw
      have : w = 0 ∨ w = 1 ∨ w = 2 ∨ w = 3 := by omega
      rcases this with rfl | rfl | rfl | rfl <;> simp (disch := omega) only [nX10_seeker, bX10_seeker, zZ, zsw_0, zsw_1, zsw_2, zsw_3, k_isSeeker h1, e1, e2, f1, f2, if_pos, if_neg]
    · simp (disch := omega) only [nX10_seeker, bX10_seeker, zZ, zsw_d, k_isSeeker h1, zV3, if_pos, if_neg]
  · rw [if_neg hp]
    simp (disch := omega) only [nX10_seeker, bX10_seeker, zZ, k_isSeeker h1, zV3, if_pos, if_neg]
theorem c_habit {k i : Int32} (hT : zTc T b I) : zW (d + 2) mX10_habit [.ref 0, .int k, .int i] sg (rg b) I L Q = Q (some (.int (r_habit T k i))) sg (rg b) I L := by
  obtain ⟨⟨h0, h1, h2, h3, h4⟩, h5, h6, h7⟩ := hT
  unfold r_habit
  by_cases hp : 0 ≤ k.toInt ∧ k.toInt < ((tsn T).val : Int)
  · obtain ⟨j, hj, rfl⟩ := v_of (by omega) hp
    obtain ⟨e1, e2, e3⟩ := h7 j hj
    simp (disch := omega) only [nI_toInt, Int.toNat_natCast]
    by_cases hi : 0 ≤ i.toInt
    · by_cases hi2 : i.toInt < ((tln T j).val : Int)
      · obtain ⟨i, hi3, rfl⟩ := v_of (by omega) ⟨hi, hi2⟩
        have e4 := (e3 i hi3).1
        simp (disch := omega) only [nX10_habit, bX10_habit, zZ, k_isSeeker h1, e2, rg_tr, va_rf_s, e4, nI_toInt, Int.toNat_natCast, if_pos, if_neg]
      · simp (disch := omega) only [nX10_habit, bX10_habit, zZ, k_isSeeker h1, e2, zV3, if_pos, if_neg]
    · simp (disch := omega) only [nX10_habit, bX10_habit, zZ, k_isSeeker h1, zV3, if_pos, if_neg]
  · rw [if_neg (fun q => hp q.1)]
    simp (disch := omega) only [nX10_habit, bX10_habit, zZ, k_isSeeker h1, zV3, if_pos, if_neg]
theorem c_puts {p : Int32} (hT : zTc T b I) (hS : zSk T S l 0 I) : zW (d + 2) mX10_puts [.ref 0, .int p] sg (rg b) I L Q = if 0 ≤ p.toInt ∧ p.toInt < ((tpn T).val : Int) then Q (some (.int (zrv T (srg S)))) sg (rg b) (zup I (sc 0 0) 0 p) L else Q (some (.int (-1))) sg (rg b) I L := by
  obtain ⟨⟨h0, h1, h2, h3, h4⟩, h5, h6, h7⟩ := hT
  obtain ⟨⟨g0, g1, g2, g3⟩, g4, g5⟩ := hS
  by_cases hp : 0 ≤ p.toInt ∧ p.toInt < ((tpn T).val : Int)
  · rw [if_pos hp]
    obtain ⟨j, hj, rfl⟩ := v_of (by omega) hp
    simp (disch := omega) only [nX10_puts, bX10_puts, zZ, k_isPlace h0, g0, if_pos, if_neg]
  · rw [if_neg hp]
    simp (disch := omega) only [nX10_puts, bX10_puts, zZ, k_isPlace h0, zV3, if_pos, if_neg]
theorem k_hadByAll (hS : zSk T S l 0 I) : zW (d + 1) mX7_hadByAll [.ref (sc 0 0)] sg (rg b) I L Q = Q (some (.int (r_sum S))) sg (rg b) I L := by
  have e := fun k hk => (hS.2.1 k hk).2
  have h : ∀ v k, k < 4 → zq d mX7_hadByAll Q 4 [some (.ref (sc 0 0)), some (.int v), some (.int (nI k))] [] sg (rg b) I L = zq d mX7_hadByAll Q 4 [some (.ref (sc 0 0)), some (.int (v + shd S k)), some (.int (nI (k + 1)))] [] sg (rg b) I L := by
    intro v k hk
    rw [eX7_hadByAll_4]
    simp (disch := omega) only [bX7_hadByAll, zZ, e, if_neg]
  simp (disch := omega) only [nX7_hadByAll, bX7_hadByAll, zZ]
  rw [h _ 0 (by decide), h _ 1 (by decide), h _ 2 (by decide), h _ 3 (by decide)]
  rw [eX7_hadByAll_4]
  simp (disch := omega) only [bX7_hadByAll, zZ, if_pos]
  rfl
theorem c_now {what : Int32} (hT : zTc T b I) (hS : zSk T S l 0 I) : zW (d + 2) mX10_now [.ref 0, .int what] sg (rg b) I L Q = Q (some (.int (r_now T S what))) sg (rg b) I L := by
  obtain ⟨⟨h0, h1, h2, h3, h4⟩, h5, h6, h7⟩ := hT
  have hS0 := hS
  obtain ⟨⟨g0, g1, g2, g3⟩, g4, g5⟩ := hS
  unfold r_now
  by_cases hw : 0 ≤ what.toInt ∧ what.toInt < ((4 : Nat) : Int)
  · obtain ⟨w, hw, rfl⟩ := v_of (by omega) hw
    have : w = 0 ∨ w = 1 ∨ w = 2 ∨ w = 3 := by omega
    rcases this with rfl | rfl | rfl | rfl <;> simp (disch := omega) only [nX10_now, bX10_now, zZ, zsw_0, zsw_1, zsw_2, zsw_3, g0, g1, h2, k_hadByAll hS0, if_pos, if_neg]
  · simp (disch := omega) only [nX10_now, bX10_now, zZ, zsw_d, zV3, if_pos, if_neg]
theorem c_lot {v : Int32} (hS : zSk T S l 0 I) : zW (d + 1) mX10_lot [.ref 0, .int v] sg (rg b) I L Q = Q (some (.int l)) sg (rg b) (zup I (sc 0 0) 2 v) L := by
  obtain ⟨⟨g0, g1, g2, g3⟩, g4, g5⟩ := hS
  simp (disch := omega) only [nX10_lot, bX10_lot, zZ, g2]
theorem c_order {i : Int32} (hT : zTc T b I) (hO : ∀ i, (tpn T).val ≤ i → tor T i (tpn T) = none) : zW (d + 1) mX10_order [.ref 0, .int i] sg (rg b) I L Q = if 0 ≤ i.toInt then Q (some (.int (zf5 (tor T i.toInt.toNat (tpn T))))) sg (rg b) I L else Q (some (.int (-1))) sg (rg b) I L := by
  obtain ⟨⟨h0, h1, h2, h3, h4⟩, h5, h6, h7⟩ := hT
  by_cases hi : 0 ≤ i.toInt
  · rw [if_pos hi]
    by_cases hi2 : i.toInt < ((tpn T).val : Int)
    · obtain ⟨i, hi3, rfl⟩ := v_of (by omega) ⟨hi, hi2⟩
      obtain ⟨j, j1, j2, j3⟩ := h6 i hi3
      simp (disch := omega) only [nX10_order, bX10_order, zZ, h0, j2, j3, zf5_s, nI_toInt, Int.toNat_natCast, if_pos, if_neg]
    · rw [hO _ (by omega)]
      simp (disch := omega) only [nX10_order, bX10_order, zZ, h0, zV3, if_pos, if_neg]
      rfl
  · rw [if_neg hi]
    simp (disch := omega) only [nX10_order, bX10_order, zZ, h0, zV3, if_pos, if_neg]
theorem c_forget (hS : zSk T S l 0 I) : zW (d + 1) mX10_forget [.ref 0] sg (rg b) I L Q = Q (some (.int (nI (ssn S)))) sg (rg b) (zup I (sc 0 0) 3 (nI 0)) L := by
  obtain ⟨⟨g0, g1, g2, g3⟩, g4, g5⟩ := hS
  simp (disch := omega) only [nX10_forget, bX10_forget, zZ, g3]
theorem c_clear : zW (d + 1) mX10_clear [.ref 0] sg (rg b) I L Q = Q (some (.int (I 1 0))) sg (rg b) (zup I 1 0 (nI 0)) L := by
  simp (disch := omega) only [nX10_clear, bX10_clear, zZ]
theorem c_count {what : Int32} (hT : zTc T b I) (hS : zSk T S l 0 I) : zW (d + 2) mX10_count [.ref 0, .int what] sg (rg b) I L Q = Q (some (.int (r_count T S (I 1 0) what))) sg (rg b) I L := by
  obtain ⟨⟨h0, h1, h2, h3, h4⟩, h5, h6, h7⟩ := hT
  obtain ⟨⟨g0, g1, g2, g3⟩, g4, g5⟩ := hS
  unfold r_count
  by_cases hw : 0 ≤ what.toInt ∧ what.toInt < ((4 : Nat) : Int)
  · obtain ⟨w, hw, rfl⟩ := v_of (by omega) hw
    have : w = 0 ∨ w = 1 ∨ w = 2 ∨ w = 3 := by omega
    rcases this with rfl | rfl | rfl | rfl <;> simp (disch := omega) only [nX10_count, bX10_count, zZ, zsw_0, zsw_1, zsw_2, zsw_3, h0, h1, g3, if_pos, if_neg]
  · simp (disch := omega) only [nX10_count, bX10_count, zZ, zsw_d, zV3, if_pos, if_neg]
theorem c_saw {week k found : Int32} (hT : zTc T b I) (hS : zSk T S l 0 I) : zW (d + 2) mX10_saw [.ref 0, .int week, .int k, .int found] sg (rg b) I L Q =
    if (0 ≤ week.toInt ∧ week.toInt < ((swk S).val : Int)) ∧ (0 ≤ k.toInt ∧ k.toInt < ((tsn T).val : Int)) ∧ (0 ≤ found.toInt ∧ found.toInt < 2) then
      (if (ssn S).val = 8 then Q (some (.int (-3))) sg (rg b) I L
      else Q (some (.int (nI ((ssn S).val + 1)))) sg (rg b) (zup (zup (zup (zup I (sc 0 3) (ssn S).val week) (sc 0 4) (ssn S).val k) (sc 0 5) (ssn S).val found) (sc 0 0) 3 (nI ((ssn S).val + 1))) L)
    else Q (some (.int (-1))) sg (rg b) I L := by
  obtain ⟨⟨h0, h1, h2, h3, h4⟩, h5, h6, h7⟩ := hT
  obtain ⟨⟨g0, g1, g2, g3⟩, g4, g5⟩ := hS
  have n1 : ∀ {A : zIm} {c j : Nat} {v : Int32}, 3 ≤ c → c ≤ 5 → zup A (sc 0 c) j v (sc 0 0) = A (sc 0 0) := fun h3 h5 => zup_r (fun q => by rw [sc_eqc (by decide) h5] at q; omega)
  by_cases hp : (0 ≤ week.toInt ∧ week.toInt < ((swk S).val : Int))
  · by_cases hp2 : (0 ≤ k.toInt ∧ k.toInt < ((tsn T).val : Int))
    · by_cases hp3 : (0 ≤ found.toInt ∧ found.toInt < ((2 : Nat) : Int))
      · rw [if_pos ⟨hp, hp2, hp3⟩]
        obtain ⟨w, hw, rfl⟩ := v_of (by omega) hp
        obtain ⟨j, hj, rfl⟩ := v_of (by omega) hp2
        obtain ⟨f, hf, rfl⟩ := v_of (by omega) hp3
        by_cases h8 : (ssn S).val = 8
        · rw [if_pos h8]
          simp (disch := omega) only [nX10_saw, bX10_saw, zZ, k_isSeeker h1, g1, g3, if_pos, if_neg]
        · rw [if_neg h8]
          simp (disch := omega) only [nX10_saw, bX10_saw, nX7_addSeen, bX7_addSeen, zZ, k_isSeeker h1, g1, g3, n1, if_pos, if_neg]
      · rw [if_neg (fun q => hp3 q.2.2)]
        obtain ⟨w, hw, rfl⟩ := v_of (by omega) hp
        obtain ⟨j, hj, rfl⟩ := v_of (by omega) hp2
        simp (disch := omega) only [nX10_saw, bX10_saw, zZ, k_isSeeker h1, g1, g3, zV3, if_pos, if_neg, ite_self]
    · rw [if_neg (fun q => hp2 q.2.1)]
      obtain ⟨w, hw, rfl⟩ := v_of (by omega) hp
      simp (disch := omega) only [nX10_saw, bX10_saw, zZ, k_isSeeker h1, g1, g3, zV3, if_pos, if_neg, ite_self]
  · rw [if_neg (fun q => hp q.1)]
    simp (disch := omega) only [nX10_saw, bX10_saw, zZ, k_isSeeker h1, g1, g3, zV3, if_pos, if_neg, ite_self]
end S

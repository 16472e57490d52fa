/-! THE CLASS: images, kinds, the text's bytes -/
theorem g68 : (sg.2 68).1 = 24 ∧ (sg.2 68).2 = 6 ∧ 68 < sg.1 := by decide +kernel
theorem la_1 {x : Int64} : x + 10 + 1 = x + 11 := by rw [Int64.add_assoc]; rfl
theorem la_2 {x : Int64} : x + 100 + 1 = x + 101 := by rw [Int64.add_assoc]; rfl
theorem la_3 {x : Int64} : x + 1000 + 11 = x + 1011 := by rw [Int64.add_assoc]; rfl
theorem la_4 {x : Int64} : x + 10000 + 101 = x + 10101 := by rw [Int64.add_assoc]; rfl
theorem la_5 {x : Int64} : x + 100000 + 1 = x + 100001 := by rw [Int64.add_assoc]; rfl
section S
variable {d : Nat} {Q : zPo} {σ : zSh} {ρ : zRf} {I : zIm} {L : zLm} {b x : Bool} {T : zT} {S : zU} {l : Int32}
theorem c_keep {image : Int32} (hS : zSk T S l 0 I)
    (hQ : if 0 ≤ image.toInt ∧ image.toInt < 2 then (∀ I', zBa (2 + image.toInt.toNat) 0 I I' → zSk T S l (2 + image.toInt.toNat) I' → Q (some (.int (nI (swk S)))) sg (rg b) (zup I' 62 image.toInt.toNat (nI 1)) L) else Q (some (.int (-1))) sg (rg b) I L) : zW (d + 2) mX10_keep [.ref 0, .int image] sg (rg b) I L Q := by
  obtain ⟨⟨g0, g1, g2, g3⟩, g4, g5⟩ := hS
  by_cases hp : 0 ≤ image.toInt ∧ image.toInt < 2
  · rw [if_pos hp] at hQ
    obtain ⟨m, hm, rfl⟩ := v_of (n := 2) (by omega) (by omega)
    simp (disch := omega) only [Int.toNat_natCast, nI_toInt] at hQ
    simp (disch := omega) only [nX10_keep, bX10_keep, zZ, rg_61, va_rf_s, if_pos, if_neg]
    refine k_becomeAs (s := 2 + m) (s' := 0) (by omega) (by omega) (by decide) g3 (by omega) (fun I' hb hb2 => ?_)
    have e1 : I' (sc 0 0) = I (sc 0 0) := hb.1 _ (fun c hc q => by rw [sc_ne (by omega) (by decide) (by omega)] at q; exact q)
    have e2 : ∀ {v : Int32}, zup I' 62 m v (sc 0 0) = I' (sc 0 0) := fun {v} => zup_r (fun q => by have := sc_r 0 0; omega)
    simp (disch := omega) only [zZ, bX10_keep, e1, e2, g1]
    refine hQ I' hb ⟨⟨?_, ?_, ?_, ?_⟩, fun k hk => ?_, fun i hi => ?_⟩
    · rw [hb.2.1 0 (by decide)]; exact g0
    · rw [hb.2.1 1 (by decide)]; exact g1
    · rw [hb.2.1 2 (by decide)]; exact g2
    · rw [hb.2.1 3 (by decide)]; exact g3
    · rw [(hb.2.2 k hk).1, (hb.2.2 k hk).2]; exact g4 k hk
    · rw [(hb2 i hi).1, (hb2 i hi).2.1, (hb2 i hi).2.2]; exact g5 i hi
  · rw [if_neg hp] at hQ
    simp (disch := omega) only [nX10_keep, bX10_keep, zZ, zV3, if_pos, if_neg, ite_self]
    exact hQ
theorem c_back {image : Int32}
    (hQ : if 0 ≤ image.toInt ∧ image.toInt < 2 then (if I 62 image.toInt.toNat = nI 0 then Q (some (.int (-2))) sg (rg b) I L else ∃ T' S' l', zSk T' S' l' (2 + image.toInt.toNat) I ∧ ∀ I', zBa 0 (2 + image.toInt.toNat) I I' → zSk T' S' l' 0 I' → Q (some (.int (nI (swk S')))) sg (rg b) I' L) else Q (some (.int (-1))) sg (rg b) I L) : zW (d + 2) mX10_back [.ref 0, .int image] sg (rg b) I L Q := by
  by_cases hp : 0 ≤ image.toInt ∧ image.toInt < 2
  · rw [if_pos hp] at hQ
    obtain ⟨m, hm, rfl⟩ := v_of (n := 2) (by omega) (by omega)
    simp (disch := omega) only [Int.toNat_natCast, nI_toInt] at hQ
    by_cases hz : I 62 m = nI 0
    · rw [if_pos hz] at hQ
      simp (disch := omega) only [nX10_back, bX10_back, zZ, hz, if_pos, if_neg]
      exact hQ
    · rw [if_neg hz] at hQ
      obtain ⟨T', S', l', ⟨⟨g0, g1, g2, g3⟩, g4, g5⟩, hQ⟩ := hQ
      simp (disch := omega) only [nX10_back, bX10_back, zZ, hz, rg_61, va_rf_s, if_pos, if_neg]
      refine k_becomeAs (s := 0) (s' := 2 + m) (by omega) (by decide) (by omega) g3 (by omega) (fun I' hb hb2 => ?_)
      have e1 : I' (sc 0 0) 1 = nI (swk S') := by rw [hb.2.1 1 (by decide)]; exact g1
      simp (disch := omega) only [zZ, bX10_back, e1]
      refine hQ I' hb ⟨⟨?_, ?_, ?_, ?_⟩, fun k hk => ?_, fun i hi => ?_⟩
      · rw [hb.2.1 0 (by decide)]; exact g0
      · rw [hb.2.1 1 (by decide)]; exact g1
      · rw [hb.2.1 2 (by decide)]; exact g2
      · rw [hb.2.1 3 (by decide)]; exact g3
      · rw [(hb.2.2 k hk).1, (hb.2.2 k hk).2]; exact g4 k hk
      · rw [(hb2 i hi).1, (hb2 i hi).2.1, (hb2 i hi).2.2]; exact g5 i hi
  · rw [if_neg hp] at hQ
    simp (disch := omega) only [nX10_back, bX10_back, zZ, zV3, if_pos, if_neg, ite_self]
    exact hQ
theorem c_trace : zW (d + 1) mX10_trace [.ref 0] sg (rg b) I L Q = Q (some (.long (0 + L 81 0 + L 82 0 + L 83 0 + L 84 0 + L 85 0 + L 86 0))) sg (rg b) I L := by
  obtain ⟨h1, h2, h3⟩ := g68
  have e81 : 81 + 0 = 81 := rfl
  simp (disch := omega) only [nX10_trace, bX10_trace, zZ]
  rw [eX10_trace_4]
  simp (disch := omega) only [bX10_trace, zZ, h1, h2, h3, rg_68, va_rf_s, if_neg, show (20 : Nat) ≤ 24 by decide, show (24 : Nat) ≤ 25 by decide, Nat.reduceAdd]
  rw [eX10_trace_4]
  simp (disch := omega) only [bX10_trace, zZ, h1, h2, h3, rg_68, va_rf_s, if_neg, show (20 : Nat) ≤ 24 by decide, show (24 : Nat) ≤ 25 by decide, Nat.reduceAdd]
  rw [eX10_trace_4]
  simp (disch := omega) only [bX10_trace, zZ, h1, h2, h3, rg_68, va_rf_s, if_neg, show (20 : Nat) ≤ 24 by decide, show (24 : Nat) ≤ 25 by decide, Nat.reduceAdd]
  rw [eX10_trace_4]
  simp (disch := omega) only [bX10_trace, zZ, h1, h2, h3, rg_68, va_rf_s, if_neg, show (20 : Nat) ≤ 24 by decide, show (24 : Nat) ≤ 25 by decide, Nat.reduceAdd]
  rw [eX10_trace_4]
  simp (disch := omega) only [bX10_trace, zZ, h1, h2, h3, rg_68, va_rf_s, if_neg, show (20 : Nat) ≤ 24 by decide, show (24 : Nat) ≤ 25 by decide, Nat.reduceAdd]
  rw [eX10_trace_4]
  simp (disch := omega) only [bX10_trace, zZ, h1, h2, h3, rg_68, va_rf_s, if_neg, show (20 : Nat) ≤ 24 by decide, show (24 : Nat) ≤ 25 by decide, Nat.reduceAdd]
  rw [eX10_trace_4]
  simp (disch := omega) only [bX10_trace, zZ, h1, h2, h3, if_pos, show (20 : Nat) ≤ 24 by decide, show (24 : Nat) ≤ 25 by decide]
  done
theorem c_mark {kind k : Int32} (hT : zTc T b I) (hS : zSk T S l 0 I) : zW (d + 4) mX10_mark [.ref 0, .int kind, .int k] sg (rg b) I L Q =
    if (0 ≤ kind.toInt ∧ kind.toInt < 6) ∧ (0 ≤ k.toInt ∧ k.toInt < ((tsn T).val : Int)) then Q (some (.int (r_kind T S kind k.toInt.toNat))) sg (rg b) I (zup L (81 + kind.toInt.toNat) 0 (L (81 + kind.toInt.toNat) 0 + r_add kind))
    else Q (some (.int (-1000000))) sg (rg b) I L := by
  obtain ⟨⟨h0, h1, h2, h3, h4⟩, h5, h6, h7⟩ := hT
  obtain ⟨⟨g0, g1, g2, g3⟩, g4, g5⟩ := hS
  obtain ⟨f1, f2, f3⟩ := g68
  by_cases hp : (0 ≤ kind.toInt ∧ kind.toInt < ((6 : Nat) : Int))
  · by_cases hp2 : (0 ≤ k.toInt ∧ k.toInt < ((tsn T).val : Int))
    · rw [if_pos ⟨hp, hp2⟩]
      obtain ⟨w, hw, rfl⟩ := v_of (by omega) hp
      obtain ⟨j, hj, rfl⟩ := v_of (by omega) hp2
      obtain ⟨e1, e2, e3⟩ := h7 j hj
      obtain ⟨i1, i2⟩ := g4 j (by omega)
      have : w = 0 ∨ w = 1 ∨ w = 2 ∨ w = 3 ∨ w = 4 ∨ w = 5 := by omega
      unfold r_kind r_add
      rcases this with rfl | rfl | rfl | rfl | rfl | rfl <;> simp (disch := omega) only [nX10_mark, bX10_mark, nX6_worth, bX6_worth, nX2_worth, bX2_worth, nX1_worth, bX1_worth, nX3_worth, bX3_worth, nX5_worth, bX5_worth, nX4_worth, bX4_worth, zZ, f1, f2, f3, rg_68, va_rf_s, k_isSeeker h1, e1, e2, i1, i2, g1, if_pos, if_neg, Int.toNat_natCast, nI_toInt, zup_s, zup_2, Nat.reduceAdd, show (20 : Nat) ≤ 24 by decide, show (24 : Nat) ≤ 25 by decide, la_1, la_2, la_3, la_4, la_5]
      rw [Int32.mul_comm]
    · rw [if_neg (fun q => hp2 q.2)]
      obtain ⟨w, hw, rfl⟩ := v_of (by omega) hp
      simp (disch := omega) only [nX10_mark, bX10_mark, zZ, f1, f2, f3, k_isSeeker h1, zV3, if_pos, if_neg, show (20 : Nat) ≤ 24 by decide, show (24 : Nat) ≤ 25 by decide, ite_self]
      done
  · rw [if_neg (fun q => hp q.1)]
    simp (disch := omega) only [nX10_mark, bX10_mark, zZ, f1, f2, f3, k_isSeeker h1, zV3, if_pos, if_neg, show (20 : Nat) ≤ 24 by decide, show (24 : Nat) ≤ 25 by decide, ite_self]
    done
theorem k_append {v : Int64} {t m : Nat} (ht : I 1 0 = nI t) (hm : m ≤ 8) (h200 : t + m ≤ 200) : zW (d + 1) mX8_append [.ref 1, .long v, .int (nI m)] sg (rg b) I L Q = Q none sg (rg b) (zup (fil I 2 t (fun i => nI (lby v (m - (i + 1)))) m) 1 0 (nI (t + m))) L := by
  have h : ∀ j, j ≤ m → zq d mX8_append Q 5 [some (.ref 1), some (.long v), none, some (.int (nI m)), some (.int (nI m - nI (j + 1)))] [] sg (rg b) (zup (fil I 2 t (fun i => nI (lby v (m - (i + 1)))) j) 1 0 (nI (t + j))) L = Q none sg (rg b) (zup (fil I 2 t (fun i => nI (lby v (m - (i + 1)))) m) 1 0 (nI (t + m))) L := by
    refine z_down m ?_ ?_
    · rw [eX8_append_5]
      have := pk_sneg (a := m) (b := m + 1) (by omega) (by omega)
      rw [← nI_0] at this
      simp (disch := omega) only [bX8_append, zZ, this, if_pos]
    · intro j hj ih
      rw [eX8_append_5]
      have e : nI m - nI (j + 1 + 1) = nI m - nI (j + 1) + -1 := by
        rw [nI_succ (j + 1), Int32.sub_eq_add_neg, Int32.sub_eq_add_neg, Int32.neg_add, Int32.sub_eq_add_neg (-nI (j + 1)), Int32.add_assoc]
      rw [e] at ih
      simp (disch := omega) only [pk_sub] at ih ⊢
      have e2 := @fil_s Int32 I 2 t j (fun i => nI (lby v (m - (i + 1))))
      simp (disch := omega) only [bX8_append, zZ, if_pos, if_neg, zup_sw, lby_c, zup_c, zup_k, fil_r, e2, Nat.add_assoc, ih]
  simp (disch := omega) only [nX8_append, bX8_append, zZ]
  have h0 := h 0 (Nat.zero_le _)
  simp only [fil_0, Nat.add_zero, Nat.zero_add, zup_id ht] at h0
  exact h0
theorem c_type {v : Int64} {n : Int32} {t : Nat} (ht : I 1 0 = nI t) (ht2 : t ≤ 200) : zW (d + 2) mX10_type [.ref 0, .long v, .int n] sg (rg b) I L Q =
    if 1 ≤ n.toInt ∧ n.toInt ≤ 8 then (if 200 < t + n.toInt.toNat then Q (some (.int (-3))) sg (rg b) I L else Q (some (.int (nI (t + n.toInt.toNat)))) sg (rg b) (zup (fil I 2 t (fun i => nI (lby v (n.toInt.toNat - (i + 1)))) n.toInt.toNat) 1 0 (nI (t + n.toInt.toNat))) L)
    else Q (some (.int (-1))) sg (rg b) I L := by
  by_cases hp : 1 ≤ n.toInt ∧ n.toInt ≤ 8
  · rw [if_pos hp]
    obtain ⟨m, hm, rfl⟩ := v_of (n := 9) (v := n) (by omega) (by omega)
    have hm1 : 1 ≤ m := by have := hp.1; rw [nI_toInt (by omega)] at this; omega
    simp (disch := omega) only [Int.toNat_natCast, nI_toInt]
    by_cases hf : 200 < t + m
    · rw [if_pos hf]
      simp (disch := omega) only [nX10_type, bX10_type, zZ, if_pos, if_neg, ht, pk_sub]
    · rw [if_neg hf]
      simp (disch := omega) only [nX10_type, bX10_type, zZ, if_pos, if_neg, ht, pk_sub, k_append ht]
  · rw [if_neg hp]
    simp (disch := omega) only [nX10_type, bX10_type, zZ, zV3, if_pos, if_neg, ite_self]
end S

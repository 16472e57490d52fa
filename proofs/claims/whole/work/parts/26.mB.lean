/-! THE MODEL'S CALLS -/
/-- NOW: ring, week, where habits stop, had; what was seen: how much, week, seeker, found -/
def zU : Type := Nat × Fin 100 × (Nat → Nat) × (Nat → Int32) × Fin 9 × (Nat → Fin 100) × (Nat → Fin 4) × (Nat → Fin 2)
def srg (S : zU) : Nat := S.1
def swk (S : zU) : Fin 100 := S.2.1
def snx (S : zU) : Nat → Nat := S.2.2.1
def shd (S : zU) : Nat → Int32 := S.2.2.2.1
def ssn (S : zU) : Fin 9 := S.2.2.2.2.1
def sse (S : zU) : Nat → Fin 100 := S.2.2.2.2.2.1
def sss (S : zU) : Nat → Fin 4 := S.2.2.2.2.2.2.1
def ssf (S : zU) : Nat → Fin 2 := S.2.2.2.2.2.2.2
def zrv (T : zT) (r : Nat) : Int32 := if (tpn T).val = 0 then -9 else nI r
def zSo (T : zT) (S : zU) (f : Nat → Int32) : Prop := f 0 = zrv T (srg S) ∧ f 1 = nI (swk S) ∧ (∀ k, k < 4 → f (2 + k) = nI (snx S k)) ∧ (∀ k, k < 4 → f (6 + k) = shd S k) ∧ f 10 = nI (ssn S) ∧ (∀ i, i < (ssn S).val → f (11 + i) = nI (sse S i)) ∧ (∀ i, i < (ssn S).val → f (19 + i) = nI (sss S i)) ∧ (∀ i, i < (ssn S).val → f (27 + i) = nI (ssf S i))
def zSw (T : zT) (S : zU) : Prop := (0 < (tpn T).val → srg S < (tpn T).val) ∧ tnk T (snx S) ∧ (∀ k, k < 4 → snx S k < 5)
/-! what calls answer -/
def r_place (T : zT) (p what : Int32) : Int32 := if 0 ≤ p.toInt ∧ p.toInt < ((tpn T).val : Int) then (if what = nI 0 then nI (thd T p.toInt.toNat) else if what = nI 1 then (if tnw T p.toInt.toNat = 0 then nI 1 else nI 0) else if what = nI 2 then nI (tnw T p.toInt.toNat) else -1) else -1
def r_seeker (T : zT) (S : zU) (k what : Int32) : Int32 := if 0 ≤ k.toInt ∧ k.toInt < ((tsn T).val : Int) then (if what = nI 0 then nI (tmn T k.toInt.toNat) else if what = nI 1 then nI (tln T k.toInt.toNat) else if what = nI 2 then nI (snx S k.toInt.toNat) else if what = nI 3 then shd S k.toInt.toNat else -1) else -1
def r_habit (T : zT) (k i : Int32) : Int32 := if (0 ≤ k.toInt ∧ k.toInt < ((tsn T).val : Int)) ∧ 0 ≤ i.toInt then (if i.toInt < ((tln T k.toInt.toNat).val : Int) then nI (thb T k.toInt.toNat i.toInt.toNat) else -5) else -1
section S
variable {d : Nat} {Q : zPo} {I : zIm} {L : zLm} {b : Bool} {T : zT} {S : zU}
theorem m_place {p what : Int32} (hT : zTo T (I 89)) : zW (d + 3) mX11_place [.ref 87, .int p, .int what] sg (rg b) I L Q = Q (some (.int (r_place T p what))) sg (rg b) I L := by
  have hT0 := hT
  obtain ⟨h0, h1, h2, h3, h4, h5, h6⟩ := hT
  unfold r_place
  by_cases hp : 0 ≤ p.toInt ∧ p.toInt < ((tpn T).val : Int)
  · rw [if_pos hp]
    obtain ⟨j, hj, rfl⟩ := v_of (by omega) hp
    simp (disch := omega) only [nI_toInt, Int.toNat_natCast]
    by_cases hw : 0 ≤ what.toInt ∧ what.toInt < ((3 : Nat) : Int)
    · obtain ⟨w, hw, rfl⟩ := v_of (by omega) hw
      have : w = 0 ∨ w = 1 ∨ w = 2 := by omega
      have h64 := tnw_64 T j
      rcases this with rfl | rfl | rfl <;> simp (disch := omega) only [nX11_place, bX11_place, zZ, s_isPlace h0, s_in, s_noWorse hT0 hj, h3, if_pos, if_neg, nI_leI]
      split <;> rfl
    · simp (disch := omega) only [nX11_place, bX11_place, zZ, s_isPlace h0, s_in, zV3, if_pos, if_neg]
  · rw [if_neg hp]
    simp (disch := omega) only [nX11_place, bX11_place, zZ, s_isPlace h0, s_in, zV3, if_pos, if_neg]
    done
theorem m_seeker {k what : Int32} (hT : zTo T (I 89)) (hS : zSo T S (I 91)) : zW (d + 3) mX11_seeker [.ref 87, .int k, .int what] sg (rg b) I L Q = Q (some (.int (r_seeker T S k what))) sg (rg b) I L := by
  obtain ⟨h0, h1, h2, h3, h4, h5, h6⟩ := hT
  obtain ⟨g0, g1, g2, g3, g4, g5, g6, g7⟩ := hS
  unfold r_seeker
  by_cases hp : 0 ≤ k.toInt ∧ k.toInt < ((tsn T).val : Int)
  · rw [if_pos hp]
    obtain ⟨j, hj, rfl⟩ := v_of (by omega) hp
    simp (disch := omega) only [nI_toInt, Int.toNat_natCast]
    by_cases hw : 0 ≤ what.toInt ∧ what.toInt < ((4 : Nat) : Int)
    · obtain ⟨w, hw, rfl⟩ := v_of (by omega) hw
      have : w = 0 ∨ w = 1 ∨ w = 2 ∨ w = 3 := by omega
      rcases this with rfl | rfl | rfl | rfl <;> simp (disch := omega) only [nX11_seeker, bX11_seeker, zZ, s_isSeeker h1, s_in, h4, h5, g2, g3, if_pos, if_neg]
    · simp (disch := omega) only [nX11_seeker, bX11_seeker, zZ, s_isSeeker h1, s_in, zV3, if_pos, if_neg]
  · rw [if_neg hp]
    simp (disch := omega) only [nX11_seeker, bX11_seeker, zZ, s_isSeeker h1, s_in, zV3, if_pos, if_neg]
theorem m_habit {k i : Int32} (hT : zTo T (I 89)) : zW (d + 3) mX11_habit [.ref 87, .int k, .int i] sg (rg b) I L Q = Q (some (.int (r_habit T k i))) sg (rg b) I L := by
  obtain ⟨h0, h1, h2, h3, h4, h5, h6⟩ := hT
  unfold r_habit
  by_cases hp : 0 ≤ k.toInt ∧ k.toInt < ((tsn T).val : Int)
  · obtain ⟨j, hj, rfl⟩ := v_of (by omega) hp
    simp (disch := omega) only [nI_toInt, Int.toNat_natCast]
    by_cases hi : 0 ≤ i.toInt
    · rw [if_pos ⟨⟨by omega, by omega⟩, hi⟩]
      by_cases hw : i.toInt < ((tln T j).val : Int)
      · obtain ⟨w, hw, rfl⟩ := v_of (by omega) ⟨hi, hw⟩
        simp (disch := omega) only [nX11_habit, bX11_habit, zZ, s_isSeeker h1, s_in, h5, h6, if_pos, if_neg, nI_toInt, Int.toNat_natCast]
      · rw [if_neg hw]
        simp (disch := omega) only [nX11_habit, bX11_habit, zZ, s_isSeeker h1, s_in, h5, zV3, if_pos, if_neg]
    · rw [if_neg (fun q => hi q.2)]
      simp (disch := omega) only [nX11_habit, bX11_habit, zZ, s_isSeeker h1, s_in, h5, zV3, if_pos, if_neg]
  · rw [if_neg (fun q => hp q.1)]
    simp (disch := omega) only [nX11_habit, bX11_habit, zZ, s_isSeeker h1, s_in, zV3, if_pos, if_neg]
theorem m_puts {p : Int32} (hT : zTo T (I 89)) (hS : zSo T S (I 91)) : zW (d + 3) mX11_puts [.ref 87, .int p] sg (rg b) I L Q = if 0 ≤ p.toInt ∧ p.toInt < ((tpn T).val : Int) then Q (some (.int (zrv T (srg S)))) sg (rg b) (zup I 91 0 p) L else Q (some (.int (-1))) sg (rg b) I L := by
  obtain ⟨h0, h1, h2, h3, h4, h5, h6⟩ := hT
  obtain ⟨g0, g1, g2, g3, g4, g5, g6, g7⟩ := hS
  by_cases hp : 0 ≤ p.toInt ∧ p.toInt < ((tpn T).val : Int)
  · rw [if_pos hp]
    obtain ⟨j, hj, rfl⟩ := v_of (by omega) hp
    simp (disch := omega) only [nX11_puts, bX11_puts, zZ, s_isPlace h0, g0, if_pos, if_neg]
  · rw [if_neg hp]
    simp (disch := omega) only [nX11_puts, bX11_puts, zZ, s_isPlace h0, zV3, if_pos, if_neg]
def r_sum (S : zU) : Int32 := nI 0 + shd S 0 + shd S 1 + shd S 2 + shd S 3
def r_now (T : zT) (S : zU) (what : Int32) : Int32 := if what = nI 0 then zrv T (srg S) else if what = nI 1 then nI (swk S) else if what = nI 2 then nI (tlw T) else if what = nI 3 then r_sum S else -1
theorem m_now {what : Int32} (hT : zTo T (I 89)) (hS : zSo T S (I 91)) : zW (d + 3) mX11_now [.ref 87, .int what] sg (rg b) I L Q = Q (some (.int (r_now T S what))) sg (rg b) I L := by
  obtain ⟨h0, h1, h2, h3, h4, h5, h6⟩ := hT
  obtain ⟨g0, g1, g2, g3, g4, g5, g6, g7⟩ := hS
  unfold r_now
  by_cases hw : 0 ≤ what.toInt ∧ what.toInt < ((4 : Nat) : Int)
  · obtain ⟨w, hw, rfl⟩ := v_of (by omega) hw
    have hst : ∀ k x, k < 4 → zq (d + 2) mX11_now Q 15 [some (.ref 87), some (.int (nI w)), some (.int x), some (.int (nI k))] [] sg (rg b) I L = zq (d + 2) mX11_now Q 15 [some (.ref 87), some (.int (nI w)), some (.int (x + shd S k)), some (.int (nI (k + 1)))] [] sg (rg b) I L := by
      intro k x hk
      rw [eX11_now_15]
      simp (disch := omega) only [bX11_now, zZ, g3, if_neg]
    simp (disch := omega) only [nX11_now, bX11_now, zZ, s_in, if_pos, if_neg]
    rw [hst 0 _ (by omega), hst 1 _ (by omega), hst 2 _ (by omega), hst 3 _ (by omega)]
    rw [eX11_now_15]
    have : w = 0 ∨ w = 1 ∨ w = 2 ∨ w = 3 := by omega
    rcases this with rfl | rfl | rfl | rfl <;> simp (disch := omega) only [bX11_now, zZ, g0, g1, h2, if_pos, if_neg, r_sum]
  · simp (disch := omega) only [nX11_now, bX11_now, zZ, s_in, zV3, if_pos, if_neg]
theorem m_lot {v : Int32} : zW (d + 1) mX11_lot [.ref 87, .int v] sg (rg b) I L Q = Q (some (.int (I 87 1))) sg (rg b) (zup I 87 1 v) L := by
  simp (disch := omega) only [nX11_lot, bX11_lot, zZ]
theorem m_forget (hS : zSo T S (I 91)) : zW (d + 1) mX11_forget [.ref 87] sg (rg b) I L Q = Q (some (.int (nI (ssn S)))) sg (rg b) (zup I 91 10 (nI 0)) L := by
  obtain ⟨g0, g1, g2, g3, g4, g5, g6, g7⟩ := hS
  simp (disch := omega) only [nX11_forget, bX11_forget, zZ, g4]
def r_count (T : zT) (S : zU) (len what : Int32) : Int32 := if what = nI 0 then nI (tpn T) else if what = nI 1 then nI (tsn T) else if what = nI 2 then nI (ssn S) else if what = nI 3 then len else -1
theorem m_count {what : Int32} (hT : zTo T (I 89)) (hS : zSo T S (I 91)) : zW (d + 3) mX11_count [.ref 87, .int what] sg (rg b) I L Q = Q (some (.int (r_count T S (I 87 3) what))) sg (rg b) I L := by
  obtain ⟨h0, h1, h2, h3, h4, h5, h6⟩ := hT
  obtain ⟨g0, g1, g2, g3, g4, g5, g6, g7⟩ := hS
  unfold r_count
  by_cases hw : 0 ≤ what.toInt ∧ what.toInt < ((4 : Nat) : Int)
  · obtain ⟨w, hw, rfl⟩ := v_of (by omega) hw
    have : w = 0 ∨ w = 1 ∨ w = 2 ∨ w = 3 := by omega
    rcases this with rfl | rfl | rfl | rfl <;> simp (disch := omega) only [nX11_count, bX11_count, zZ, s_in, h0, h1, g4, if_pos, if_neg]
  · simp (disch := omega) only [nX11_count, bX11_count, zZ, s_in, zV3, if_pos, if_neg]
theorem m_trace : zW (d + 1) mX11_trace [.ref 87] sg (rg b) I L Q = Q (some (.long (L 87 0))) sg (rg b) I L := by
  simp (disch := omega) only [nX11_trace, bX11_trace, zZ]
theorem m_clear : zW (d + 1) mX11_clear [.ref 87] sg (rg b) I L Q = Q (some (.int (I 87 3))) sg (rg b) (zup I 87 3 (nI 0)) L := by
  simp (disch := omega) only [nX11_clear, bX11_clear, zZ]
theorem m_saw {week k found : Int32} (hT : zTo T (I 89)) (hS : zSo T S (I 91)) : zW (d + 3) mX11_saw [.ref 87, .int week, .int k, .int found] sg (rg b) I L Q =
    if (0 ≤ week.toInt ∧ week.toInt < ((swk S).val : Int)) ∧ (0 ≤ k.toInt ∧ k.toInt < ((tsn T).val : Int)) ∧ (0 ≤ found.toInt ∧ found.toInt < 2) then
      (if (ssn S).val = 8 then Q (some (.int (-3))) sg (rg b) I L
      else Q (some (.int (nI ((ssn S).val + 1)))) sg (rg b) (zup (zup (zup (zup I 91 (11 + (ssn S).val) week) 91 (19 + (ssn S).val) k) 91 (27 + (ssn S).val) found) 91 10 (nI ((ssn S).val + 1))) L)
    else Q (some (.int (-1))) sg (rg b) I L := by
  obtain ⟨h0, h1, h2, h3, h4, h5, h6⟩ := hT
  obtain ⟨g0, g1, g2, g3, g4, g5, g6, g7⟩ := hS
  by_cases hp : (0 ≤ week.toInt ∧ week.toInt < ((swk S).val : Int))
  · by_cases hp2 : (0 ≤ k.toInt ∧ k.toInt < ((tsn T).val : Int))
    · by_cases hp3 : (0 ≤ found.toInt ∧ found.toInt < ((2 : Nat) : Int))
      · rw [if_pos ⟨hp, hp2, hp3⟩]
        obtain ⟨w, hw, rfl⟩ := v_of (by omega) hp
        obtain ⟨j, hj, rfl⟩ := v_of (by omega) hp2
        obtain ⟨f, hf, rfl⟩ := v_of (by omega) hp3
        by_cases h8 : (ssn S).val = 8
        · rw [if_pos h8]
          simp (disch := omega) only [nX11_saw, bX11_saw, zZ, s_in, s_isSeeker h1, g1, g4, if_pos, if_neg]
        · rw [if_neg h8]
          simp (disch := omega) only [nX11_saw, bX11_saw, zZ, s_in, s_isSeeker h1, g1, g4, if_pos, if_neg, zup_c, zup_k]
      · rw [if_neg (fun q => hp3 q.2.2)]
        obtain ⟨w, hw, rfl⟩ := v_of (by omega) hp
        obtain ⟨j, hj, rfl⟩ := v_of (by omega) hp2
        simp (disch := omega) only [nX11_saw, bX11_saw, zZ, s_in, s_isSeeker h1, g1, g4, zV3, if_pos, if_neg]
    · rw [if_neg (fun q => hp2 q.2.1)]
      obtain ⟨w, hw, rfl⟩ := v_of (by omega) hp
      simp (disch := omega) only [nX11_saw, bX11_saw, zZ, s_in, s_isSeeker h1, g1, g4, zV3, if_pos, if_neg]
  · rw [if_neg (fun q => hp q.1)]
    simp (disch := omega) only [nX11_saw, bX11_saw, zZ, s_in, s_isSeeker h1, g1, g4, zV3, if_pos, if_neg]
def r_kind (T : zT) (S : zU) (kind : Int32) (j : Nat) : Int32 := if kind = nI 0 then nI (tmn T j) else if kind = nI 1 then nI (tmn T j) + shd S j else if kind = nI 2 then nI (tmn T j) - nI (tln T j) else if kind = nI 3 then nI 2 * (nI (tmn T j) + shd S j) else if kind = nI 4 then nI (tmn T j) - nI (tln T j) + nI j else nI (tmn T j) + nI (swk S)
def r_add (kind : Int32) : Int64 := if kind = nI 0 then 1 else if kind = nI 1 then 11 else if kind = nI 2 then 101 else if kind = nI 3 then 1011 else if kind = nI 4 then 10101 else 100001
theorem m_mark {kind k : Int32} (hT : zTo T (I 89)) (hS : zSo T S (I 91)) : zW (d + 3) mX11_mark [.ref 87, .int kind, .int k] sg (rg b) I L Q =
    if (0 ≤ kind.toInt ∧ kind.toInt < 6) ∧ (0 ≤ k.toInt ∧ k.toInt < ((tsn T).val : Int)) then Q (some (.int (r_kind T S kind k.toInt.toNat))) sg (rg b) I (zup L 87 0 (L 87 0 + r_add kind))
    else Q (some (.int (-1000000))) sg (rg b) I L := by
  obtain ⟨h0, h1, h2, h3, h4, h5, h6⟩ := hT
  obtain ⟨g0, g1, g2, g3, g4, g5, g6, g7⟩ := hS
  by_cases hp : (0 ≤ kind.toInt ∧ kind.toInt < ((6 : Nat) : Int))
  · by_cases hp2 : (0 ≤ k.toInt ∧ k.toInt < ((tsn T).val : Int))
    · rw [if_pos ⟨hp, hp2⟩]
      obtain ⟨w, hw, rfl⟩ := v_of (by omega) hp
      obtain ⟨j, hj, rfl⟩ := v_of (by omega) hp2
      have : w = 0 ∨ w = 1 ∨ w = 2 ∨ w = 3 ∨ w = 4 ∨ w = 5 := by omega
      unfold r_kind r_add
      rcases this with rfl | rfl | rfl | rfl | rfl | rfl <;> simp (disch := omega) only [nX11_mark, bX11_mark, zZ, s_in, s_isSeeker h1, h4, h5, g1, g3, if_pos, if_neg, Int.toNat_natCast, nI_toInt]
    · rw [if_neg (fun q => hp2 q.2)]
      obtain ⟨w, hw, rfl⟩ := v_of (by omega) hp
      simp (disch := omega) only [nX11_mark, bX11_mark, zZ, s_in, s_isSeeker h1, zV3, if_pos, if_neg]
  · rw [if_neg (fun q => hp q.1)]
    simp (disch := omega) only [nX11_mark, bX11_mark, zZ, s_in, s_isSeeker h1, zV3, if_pos, if_neg]
theorem m_keep {image : Int32} (hS : zSo T S (I 91)) : zW (d + 3) mX11_keep [.ref 87, .int image] sg (rg b) I L Q =
    if 0 ≤ image.toInt ∧ image.toInt < 2 then Q (some (.int (nI (swk S)))) sg (rg b) (zup (zup (fil I 92 (36 * image.toInt.toNat) (I 91) 36) 97 image.toInt.toNat (I 87 1)) 93 image.toInt.toNat (nI 1)) L
    else Q (some (.int (-1))) sg (rg b) I L := by
  obtain ⟨g0, g1, g2, g3, g4, g5, g6, g7⟩ := hS
  by_cases hp : (0 ≤ image.toInt ∧ image.toInt < 2)
  · rw [if_pos hp]
    obtain ⟨m, hm, rfl⟩ := v_of (n := 2) (by omega) (by omega)
    simp (disch := omega) only [Int.toNat_natCast, nI_toInt]
    have h : ∀ k, k ≤ 36 → zq (d + 2) mX11_keep Q 13 [some (.ref 87), some (.int (nI m)), some (.int (nI k))] [] sg (rg b) (fil I 92 (36 * m) (I 91) k) L = zq (d + 2) mX11_keep Q 13 [some (.ref 87), some (.int (nI m)), some (.int (nI 36))] [] sg (rg b) (fil I 92 (36 * m) (I 91) 36) L := by
      refine z_iter 36 (fun k hk => ?_)
      rw [eX11_keep_13]
      simp (disch := omega) only [bX11_keep, zZ, if_neg, fil_r, fil_s]
    simp (disch := omega) only [nX11_keep, bX11_keep, zZ, s_in, if_pos, if_neg]
    have h0 := h 0 (by omega)
    rw [fil_0] at h0
    rw [h0, eX11_keep_13]
    simp (disch := omega) only [bX11_keep, zZ, if_pos, fil_r, zup_c, zup_k, g1]
  · rw [if_neg (fun q => hp q)]
    simp (disch := omega) only [nX11_keep, bX11_keep, zZ, s_in, zV3, if_pos, if_neg]
theorem m_back {image : Int32} : zW (d + 3) mX11_back [.ref 87, .int image] sg (rg b) I L Q =
    if 0 ≤ image.toInt ∧ image.toInt < 2 then (if I 93 image.toInt.toNat = nI 0 then Q (some (.int (-2))) sg (rg b) I L else Q (some (.int (I 92 (36 * image.toInt.toNat + 1)))) sg (rg b) (zup (fil I 91 0 (fun k => I 92 (36 * image.toInt.toNat + k)) 36) 87 1 (I 97 image.toInt.toNat)) L)
    else Q (some (.int (-1))) sg (rg b) I L := by
  by_cases hp : (0 ≤ image.toInt ∧ image.toInt < 2)
  · rw [if_pos hp]
    obtain ⟨m, hm, rfl⟩ := v_of (n := 2) (by omega) (by omega)
    simp (disch := omega) only [Int.toNat_natCast, nI_toInt]
    have h : ∀ k, k ≤ 36 → zq (d + 2) mX11_back Q 25 [some (.ref 87), some (.int (nI m)), some (.int (nI k))] [] sg (rg b) (fil I 91 0 (fun k => I 92 (36 * m + k)) k) L = zq (d + 2) mX11_back Q 25 [some (.ref 87), some (.int (nI m)), some (.int (nI 36))] [] sg (rg b) (fil I 91 0 (fun k => I 92 (36 * m + k)) 36) L := by
      refine z_iter 36 (fun k hk => ?_)
      rw [eX11_back_25]
      simp (disch := omega) only [bX11_back, zZ, if_neg, fil_r]
      rw [show I 92 (36 * m + k) = (fun k => I 92 (36 * m + k)) k from rfl, fil_s0]
    simp (disch := omega) only [nX11_back, bX11_back, zZ, s_in, if_pos, if_neg]
    have h0 := h 0 (by omega)
    rw [fil_0] at h0
    by_cases c : I 93 m = nI 0
    · rw [if_pos c, if_pos c]
    · rw [if_neg c, if_neg c, h0, eX11_back_25]
      simp (disch := omega) only [bX11_back, zZ, if_pos, fil_r, zup_c, zup_k, fil_i0]
  · rw [if_neg (fun q => hp q)]
    simp (disch := omega) only [nX11_back, bX11_back, zZ, s_in, zV3, if_pos, if_neg]
end S

/-! THE MODEL'S CALLS -/
/-- NOW: ring, week, where habits stop, had; what was seen: how much, week, seeker, found -/
def zU : Type := Nat × Fin 100 × (Nat → Nat) × (Nat → Int32) × Fin 9 × (Nat → Fin 100) × (Nat → Fin 4) × (Nat → Fin 2)
def srg (S : zU) : Nat := S.1
def swk (S : zU) : Fin 100 := S.2.1
def snx (S : zU) : Nat → Nat := S.2.2.1
def shd (S : zU) : Nat → Int32 := S.2.2.2.1
def ssn (S : zU) : Fin 9 := S.2.2.2.2.1
def sse (S : zU) : Nat → Fin 100 := S.2.2.2.2.2.1
def sss (S : zU) : Nat → Fin 4 := S.2.2.2.2.2.2.1
def ssf (S : zU) : Nat → Fin 2 := S.2.2.2.2.2.2.2
def zrv (T : zT) (r : Nat) : Int32 := if (tpn T).val = 0 then -9 else nI r
def zSo (T : zT) (S : zU) (f : Nat → Int32) : Prop := f 0 = zrv T (srg S) ∧ f 1 = nI (swk S) ∧ (∀ k, k < 4 → f (2 + k) = nI (snx S k)) ∧ (∀ k, k < 4 → f (6 + k) = shd S k) ∧ f 10 = nI (ssn S) ∧ (∀ i, i < (ssn S).val → f (11 + i) = nI (sse S i)) ∧ (∀ i, i < (ssn S).val → f (19 + i) = nI (sss S i)) ∧ (∀ i, i < (ssn S).val → f (27 + i) = nI (ssf S i))
def zSw (T : zT) (S : zU) : Prop := (0 < (tpn T).val → srg S < (tpn T).val) ∧ tnk T (snx S) ∧ (∀ k, k < 4 → snx S k < 5)
/-! what calls answer -/
def r_place (T : zT) (p what : Int32) : Int32 := if 0 ≤ p.toInt ∧ p.toInt < ((tpn T).val : Int) then (if what = nI 0 then nI (thd T p.toInt.toNat) else if what = nI 1 then (if tnw T p.toInt.toNat = 0 then nI 1 else nI 0) else if what = nI 2 then nI (tnw T p.toInt.toNat) else -1) else -1
def r_seeker (T : zT) (S : zU) (k what : Int32) : Int32 := if 0 ≤ k.toInt ∧ k.toInt < ((tsn T).val : Int) then (if what = nI 0 then nI (tmn T k.toInt.toNat) else if what = nI 1 then nI (tln T k.toInt.toNat) else if what = nI 2 then nI (snx S k.toInt.toNat) else if what = nI 3 then shd S k.toInt.toNat else -1) else -1
def r_habit (T : zT) (k i : Int32) : Int32 := if (0 ≤ k.toInt ∧ k.toInt < ((tsn T).val : Int)) ∧ 0 ≤ i.toInt then (if i.toInt < ((tln T k.toInt.toNat).val : Int) then nI (thb T k.toInt.toNat i.toInt.toNat) else -5) else -1
section S
variable {d : Nat} {Q : zPo} {I : zIm} {L : zLm} {b : Bool} {T : zT} {S : zU}
theorem m_place {p what : Int32} (hT : zTo T (I 89)) : zW (d + 3) mX11_place [.ref 87, .int p, .int what] sg (rg b) I L Q = Q (some (.int (r_place T p what))) sg (rg b) I L := by
  have hT0 := hT
  obtain ⟨h0, h1, h2, h3, h4, h5, h6⟩ := hT
  unfold r_place
  by_cases hp : 0 ≤ p.toInt ∧ p.toInt < ((tpn T).val : Int)
  · rw [if_pos hp]
    obtain ⟨j, hj, rfl⟩ := v_of (by omega) hp
    simp (disch := omega) only [nI_toInt, Int.toNat_natCast]
    by_cases hw : 0 ≤ what.toInt ∧ what.toInt < ((3 : Nat) : Int)
    · obtain ⟨w, hw, rfl⟩ := v_of (by omega) hw
      have : w = 0 ∨ w = 1 ∨ w = 2 := by omega
      have h64 := tnw_64 T j
      rcases this with rfl | rfl | rfl <;> simp (disch := omega) only [nX11_place, bX11_place, zZ, s_isPlace h0, s_in, s_noWorse hT0 hj, h3, if_pos, if_neg, nI_leI]
      split <;> rfl
    · simp (disch := omega) only [nX11_place, bX11_place, zZ, s_isPlace h0, s_in, zV3, if_pos, if_neg]
  · rw [if_neg hp]
    simp (disch := omega) only [nX11_place, bX11_place, zZ, s_isPlace h0, s_in, zV3, if_pos, if_neg]
    done
theorem m_seeker {k what : Int32} (hT : zTo T (I 89)) (hS : zSo T S (I 91)) : zW (d + 3) mX11_seeker [.ref 87, .int k, .int what] sg (rg b) I L Q = Q (some (.int (r_seeker T S k what))) sg (rg b) I L := by
  obtain ⟨h0, h1, h2, h3, h4, h5, h6⟩ := hT
  obtain ⟨g0, g1, g2, g3, g4, g5, g6, g7⟩ := hS
  unfold r_seeker
  by_cases hp : 0 ≤ k.toInt ∧ k.toInt < ((tsn T).val : Int)
  · rw [if_pos hp]
    obtain ⟨j, hj, rfl⟩ := v_of (by omega) hp
    simp (disch := omega) only [nI_toInt, Int.toNat_natCast]
    by_cases hw : 0 ≤ what.toInt ∧ what.toInt < ((4 : Nat) : Int)
    · obtain ⟨w, hw, rfl⟩ := v_of (by omega) hw
      have : w = 0 ∨ w = 1 ∨ w = 2 ∨ w = 3 := by omega
      rcases this with rfl | rfl | rfl | rfl <;> simp (disch := omega) only [nX11_seeker, bX11_seeker, zZ, s_isSeeker h1, s_in, h4, h5, g2, g3, if_pos, if_neg]
    · simp (disch := omega) only [nX11_seeker, bX11_seeker, zZ, s_isSeeker h1, s_in, zV3, if_pos, if_neg]
  · rw [if_neg hp]
    simp (disch := omega) only [nX11_seeker, bX11_seeker, zZ, s_isSeeker h1, s_in, zV3, if_pos, if_neg]
theorem m_habit {k i : Int32} (hT : zTo T (I 89)) : zW (d + 3) mX11_habit [.ref 87, .int k, .int i] sg (rg b) I L Q = Q (some (.int (r_habit T k i))) sg (rg b) I L := by
  obtain ⟨h0, h1, h2, h3, h4, h5, h6⟩ := hT
  unfold r_habit
  by_cases hp : 0 ≤ k.toInt ∧ k.toInt < ((tsn T).val : Int)
  · obtain ⟨j, hj, rfl⟩ := v_of (by omega) hp
    simp (disch := omega) only [nI_toInt, Int.toNat_natCast]
    by_cases hi : 0 ≤ i.toInt
    · rw [if_pos ⟨⟨by omega, by omega⟩, hi⟩]
      by_cases hw : i.toInt < ((tln T j).val : Int)
      · obtain ⟨w, hw, rfl⟩ := v_of (by omega) ⟨hi, hw⟩
        simp (disch := omega) only [nX11_habit, bX11_habit, zZ, s_isSeeker h1, s_in, h5, h6, if_pos, if_neg, nI_toInt, Int.toNat_natCast]
      · rw [if_neg hw]
        simp (disch := omega) only [nX11_habit, bX11_habit, zZ, s_isSeeker h1, s_in, h5, zV3, if_pos, if_neg]
    · rw [if_neg (fun q => hi q.2)]
      simp (disch := omega) only [nX11_habit, bX11_habit, zZ, s_isSeeker h1, s_in, h5, zV3, if_pos, if_neg]
  · rw [if_neg (fun q => hp q.1)]
    simp (disch := omega) only [nX11_habit, bX11_habit, zZ, s_isSeeker h1, s_in, zV3, if_pos, if_neg]
end S

/-! THE MODEL: hard of all, ranks, fractions -/
def tsm (T : zT) : Nat → Nat
  | 0 => 0
  | p + 1 => tsm T p + (thd T p).val
theorem tsm_s (T : zT) (p : Nat) : tsm T (p + 1) = tsm T p + (thd T p).val := rfl
theorem tsm_le (T : zT) : ∀ p, tsm T p ≤ 9 * p
  | 0 => Nat.le_refl _
  | p + 1 => by have := tsm_le T p; rw [tsm_s]; omega
theorem tsm_mono (T : zT) {p : Nat} : ∀ q, p ≤ q → tsm T p ≤ tsm T q
  | 0, h => by rw [show p = 0 by omega]; exact Nat.le_refl _
  | q + 1, h => by
    by_cases e : p = q + 1
    · rw [e]; exact Nat.le_refl _
    · have := tsm_mono T (p := p) q (by omega); rw [tsm_s]; omega
theorem tsm_pos {T : zT} (hw : zTw T) (h : 0 < (tpn T).val) : 0 < tsm T (tpn T) := by
  have h1 := hw.1 0 h
  have := tsm_mono T (p := 1) (tpn T) h
  have e : tsm T 1 = 0 + (thd T 0).val := rfl
  omega
/-- how many of the first q come ahead of p in the first order -/
def trq (T : zT) (p : Nat) : Nat → Nat
  | 0 => 0
  | q + 1 => if (thd T q).val < (thd T p).val then trq T p q + 1 else if (thd T q).val = (thd T p).val then (if q < p then trq T p q + 1 else trq T p q) else trq T p q
theorem trq_s (T : zT) (p q : Nat) : trq T p (q + 1) = if (thd T q).val < (thd T p).val then trq T p q + 1 else if (thd T q).val = (thd T p).val then (if q < p then trq T p q + 1 else trq T p q) else trq T p q := rfl
theorem trq_le (T : zT) (p : Nat) : ∀ q, trq T p q ≤ q
  | 0 => Nat.le_refl _
  | q + 1 => by
    have := trq_le T p q
    rw [trq_s]; split
    · omega
    · split
      · split <;> omega
      · omega
def trk (T : zT) (p : Nat) : Nat := trq T p (tpn T)
theorem trk_le (T : zT) (p : Nat) : trk T p ≤ (tpn T).val := trq_le T p _
def tsw (T : zT) : Nat → Nat
  | 0 => 0
  | p + 1 => tsw T p + (thd T p).val * ((tpn T).val - trk T p)
theorem tsw_s (T : zT) (p : Nat) : tsw T (p + 1) = tsw T p + (thd T p).val * ((tpn T).val - trk T p) := rfl
theorem tsw_le (T : zT) : ∀ p, tsw T p ≤ 54 * p
  | 0 => Nat.le_refl _
  | p + 1 => by
    have := tsw_le T p
    have h : (thd T p).val * ((tpn T).val - trk T p) ≤ 9 * 6 := Nat.mul_le_mul (by omega) (by omega)
    rw [tsw_s]; omega
def tor (T : zT) (i : Nat) : Nat → Option Nat
  | 0 => none
  | p + 1 => if trk T p = i then some p else tor T i p
theorem tor_s (T : zT) (i p : Nat) : tor T i (p + 1) = if trk T p = i then some p else tor T i p := rfl
def zf5 (o : Option Nat) : Int32 := match o with
  | none => -5
  | some q => nI q
theorem zf5_s {q : Nat} : zf5 (some q) = nI q := rfl
/-- the upper or the lower number in least terms -/
def gpt (a c : Nat) (up : Bool) : Nat := if up = true then a / Nat.gcd a c else c / Nat.gcd a c
section S
variable {d : Nat} {Q : zPo} {σ : zSh} {ρ : zRf} {I : zIm} {L : zLm} {b : Bool} {T : zT} {S : zU}
theorem s_allHard (hT : zTo T (I 89)) : zW (d + 1) mX11_allHard [.ref 87] sg (rg b) I L Q = Q (some (.int (nI (tsm T (tpn T))))) sg (rg b) I L := by
  obtain ⟨h0, h1, h2, h3, h4, h5, h6⟩ := hT
  have h : ∀ p, p ≤ (tpn T).val → zq d mX11_allHard Q 4 [some (.ref 87), some (.int (nI (tsm T p))), some (.int (nI p))] [] sg (rg b) I L = zq d mX11_allHard Q 4 [some (.ref 87), some (.int (nI (tsm T (tpn T)))), some (.int (nI (tpn T)))] [] sg (rg b) I L := by
    refine z_iter _ (fun p hp => ?_)
    rw [eX11_allHard_4]
    simp (disch := omega) only [bX11_allHard, zZ, h0, h3, if_neg]
    rfl
  simp (disch := omega) only [nX11_allHard, bX11_allHard]
  refine (h 0 (Nat.zero_le _)).trans ?_
  rw [eX11_allHard_4]
  simp (disch := omega) only [bX11_allHard, zZ, h0, if_pos]
theorem s_rank {p : Nat} (hT : zTo T (I 89)) (hp : p < (tpn T).val) : zW (d + 1) mX11_rank [.ref 87, .int (nI p)] sg (rg b) I L Q = Q (some (.int (nI (trk T p)))) sg (rg b) I L := by
  obtain ⟨h0, h1, h2, h3, h4, h5, h6⟩ := hT
  have h : ∀ q, q ≤ (tpn T).val → zq d mX11_rank Q 4 [some (.ref 87), some (.int (nI p)), some (.int (nI (trq T p q))), some (.int (nI q))] [] sg (rg b) I L = Q (some (.int (nI (trk T p)))) sg (rg b) I L := by
    refine z_down _ ?_ ?_
    · rw [eX11_rank_4]
      simp (disch := omega) only [bX11_rank, zZ, h0, if_pos]
      rfl
    · intro q hq ih
      have := trq_le T p q
      rw [eX11_rank_4]
      rw [trq_s] at ih
      simp (disch := omega) only [bX11_rank, zZ, h0, h3, if_neg]
      by_cases e1 : (thd T q).val < (thd T p).val
      · rw [if_pos e1] at ih ⊢
        exact ih
      · rw [if_neg e1] at ih ⊢
        by_cases e2 : (thd T q).val = (thd T p).val
        · rw [if_pos e2] at ih ⊢
          by_cases e3 : q < p
          · rw [if_pos e3] at ih
            rw [if_neg (by omega)]
            exact ih
          · rw [if_neg e3] at ih
            rw [if_pos (by omega)]
            exact ih
        · rw [if_neg e2] at ih ⊢
          exact ih
  simp (disch := omega) only [nX11_rank, bX11_rank]
  exact h 0 (Nat.zero_le _)
theorem m_order {i : Int32} (hT : zTo T (I 89)) : zW (d + 2) mX11_order [.ref 87, .int i] sg (rg b) I L Q = if 0 ≤ i.toInt then Q (some (.int (zf5 (tor T i.toInt.toNat (tpn T))))) sg (rg b) I L else Q (some (.int (-1))) sg (rg b) I L := by
  have hT0 := hT
  obtain ⟨h0, h1, h2, h3, h4, h5, h6⟩ := hT
  by_cases c : 0 ≤ i.toInt
  · rw [if_pos c]
    obtain ⟨j, hj, rfl⟩ := v_of (v := i) (n := 2 ^ 31) (Nat.le_refl _) ⟨c, by have := Int32.toInt_lt i; omega⟩
    simp (disch := omega) only [nI_toInt, Int.toNat_natCast]
    have h : ∀ p, p ≤ (tpn T).val → zq (d + 1) mX11_order Q 11 [some (.ref 87), some (.int (nI j)), some (.int (zf5 (tor T j p))), some (.int (nI p))] [] sg (rg b) I L = zq (d + 1) mX11_order Q 11 [some (.ref 87), some (.int (nI j)), some (.int (zf5 (tor T j (tpn T)))), some (.int (nI (tpn T)))] [] sg (rg b) I L := by
      refine z_iter _ (fun p hp => ?_)
      have := trk_le T p
      rw [eX11_order_11]
      simp (disch := omega) only [bX11_order, zZ, h0, if_neg, s_rank hT0 hp]
      rw [tor_s]
      by_cases e : trk T p = j
      · simp only [e, if_true, zf5_s]
      · simp only [e, if_false]
    simp (disch := omega) only [nX11_order, bX11_order, zZ, if_pos, if_neg]
    refine (h 0 (Nat.zero_le _)).trans ?_
    rw [eX11_order_11]
    simp (disch := omega) only [bX11_order, zZ, h0, if_pos]
  · rw [if_neg c]
    simp (disch := omega) only [nX11_order, bX11_order, zZ, zV3, if_pos, if_neg]
theorem lN_0 : (0 : Int64) = lN 0 := rfl
theorem lg_0 {x y : Int64} : lg_cmp x y = nI 0 ↔ x = y := by
  unfold lg_cmp
  constructor
  · intro h
    by_cases c : x > y
    · rw [if_pos c] at h; exact absurd h (by decide +kernel)
    · rw [if_neg c] at h
      by_cases c2 : x = y
      · exact c2
      · rw [if_neg c2] at h; exact absurd h (by decide +kernel)
  · intro h
    have c : ¬ x > y := by rw [h]; exact Int64.lt_irrefl
    rw [if_neg c, if_pos h, nI_0]
theorem s_divisor {x y : Nat} (hx : x < 2 ^ 62) (hy : y < 2 ^ 62) : zW (d + 1) mX11_divisor [.long (lN x), .long (lN y)] σ ρ I L Q = Q (some (.long (lN (Nat.gcd x y)))) σ ρ I L := by
  have h : ∀ y x l l2 l3, x < 2 ^ 62 → y < 2 ^ 62 → zq d mX11_divisor Q 6 [l, none, l2, none, some (.long (lN x)), none, some (.long (lN y)), none, l3, none] [] σ ρ I L = Q (some (.long (lN (Nat.gcd x y)))) σ ρ I L := by
    intro y
    induction y using Nat.strongRecOn with
    | ind y ih =>
      intro x l l2 l3 hx hy
      rw [eX11_divisor_6]
      by_cases c : y = 0
      · subst c
        simp only [bX11_divisor, ← lN_0, lg_0, if_true, Nat.gcd_zero_right]
      · have hne : ¬ lN y = 0 := by rw [lN_0, pk_lEQ (by omega) (by omega)]; exact c
        have hlt := Nat.mod_lt x (show y > 0 by omega)
        simp (disch := omega) only [bX11_divisor, lg_0, hne, zZ, pk_lRem]
        rw [ih _ hlt _ _ _ _ (by omega) (by omega), Nat.gcd_comm x y, Nat.gcd_rec y x, Nat.gcd_comm]
  simp (disch := omega) only [nX11_divisor, bX11_divisor]
  exact h y x _ _ _ hx hy
theorem s_part {x y : Nat} {w : Int32} (hx : x < 2 ^ 62) (h0 : 0 < y) (hy : y < 2 ^ 62) : zW (d + 2) mX11_part [.long (lN x), .long (lN y), .int w] σ ρ I L Q = Q (some (.long (lN (gpt x y (decide (w = nI 0)))))) σ ρ I L := by
  have hg := Nat.gcd_pos_of_pos_right x h0
  have hg2 := Nat.gcd_le_right x h0
  have hne : ¬ lN (Nat.gcd x y) = 0 := by rw [lN_0, pk_lEQ (by omega) (by omega)]; omega
  simp (disch := omega) only [nX11_part, bX11_part, s_divisor, zZ, hne, pk_lDiv]
  unfold gpt
  by_cases c : w = nI 0 <;> simp only [c, if_true, if_false, decide_true, decide_false, Bool.false_eq_true]
def r_lots (T : zT) (p what : Int32) : Int32 := if (0 ≤ p.toInt ∧ p.toInt < ((tpn T).val : Int)) ∧ (0 ≤ what.toInt ∧ what.toInt < 4) then (if what = nI 0 then nI (gpt (thd T p.toInt.toNat) (tsm T (tpn T)) true) else if what = nI 1 then nI (gpt (thd T p.toInt.toNat) (tsm T (tpn T)) false) else if what = nI 2 then nI 1 else nI (tsm T (tpn T))) else -1
theorem m_lots {p what : Int32} (hT : zTo T (I 89)) (hw : zTw T) : zW (d + 4) mX11_lots [.ref 87, .int p, .int what] sg (rg b) I L Q = Q (some (.int (r_lots T p what))) sg (rg b) I L := by
  have hT0 := hT
  obtain ⟨h0, h1, h2, h3, h4, h5, h6⟩ := hT
  unfold r_lots
  by_cases hp : (0 ≤ p.toInt ∧ p.toInt < ((tpn T).val : Int))
  · by_cases hq : (0 ≤ what.toInt ∧ what.toInt < 4)
    · rw [if_pos ⟨hp, hq⟩]
      obtain ⟨j, hj, rfl⟩ := v_of (by omega) hp
      obtain ⟨w, hw', rfl⟩ := v_of (n := 4) (v := what) (by omega) (by omega)
      have hs := tsm_pos hw (by omega)
      have hs2 := tsm_le T (tpn T)
      have : w = 0 ∨ w = 1 ∨ w = 2 ∨ w = 3 := by omega
      rcases this with rfl | rfl | rfl | rfl <;> simp (disch := omega) only [nX11_lots, bX11_lots, zZ, s_in, s_isPlace h0, h3, if_pos, if_neg, Int.toNat_natCast, nI_toInt, s_allHard hT0, nI_l, s_part, lN_i, decide_true, decide_false, show decide (nI 1 = nI 0) = false from rfl]
      rfl
    · rw [if_neg (fun q => hq q.2)]
      obtain ⟨j, hj, rfl⟩ := v_of (by omega) hp
      simp (disch := omega) only [nX11_lots, bX11_lots, zZ, s_in, s_isPlace h0, zV3, if_pos, if_neg]
  · rw [if_neg (fun q => hp q.1)]
    simp (disch := omega) only [nX11_lots, bX11_lots, zZ, s_in, s_isPlace h0, zV3, if_pos, if_neg]
def r_sweep (T : zT) (what : Int32) : Int32 := if 0 ≤ what.toInt ∧ what.toInt < 3 then (if what = nI 0 then nI (tsm T (tpn T)) else if (tpn T).val = 0 then (if what = nI 1 then nI 0 else nI 1) else if what = nI 1 then nI (gpt (tsw T (tpn T)) (tpn T) true) else nI (gpt (tsw T (tpn T)) (tpn T) false)) else -1
theorem m_sweep {what : Int32} (hT : zTo T (I 89)) : zW (d + 4) mX11_sweep [.ref 87, .int what] sg (rg b) I L Q = Q (some (.int (r_sweep T what))) sg (rg b) I L := by
  have hT0 := hT
  obtain ⟨h0, h1, h2, h3, h4, h5, h6⟩ := hT
  unfold r_sweep
  by_cases hq : (0 ≤ what.toInt ∧ what.toInt < 3)
  · rw [if_pos hq]
    obtain ⟨w, hw', rfl⟩ := v_of (n := 3) (v := what) (by omega) (by omega)
    have hs2 := tsm_le T (tpn T)
    have hs3 := tsw_le T (tpn T)
    by_cases e : (tpn T).val = 0
    · have hz : tsm T (tpn T) = 0 := by rw [e]; rfl
      have : w = 0 ∨ w = 1 ∨ w = 2 := by omega
      rcases this with rfl | rfl | rfl <;> simp (disch := omega) only [nX11_sweep, bX11_sweep, zZ, s_in, h0, e, if_pos, if_neg, s_allHard hT0, hz]
      rfl
    · by_cases w0 : w = 0
      · subst w0
        simp (disch := omega) only [nX11_sweep, bX11_sweep, zZ, s_in, h0, if_pos, if_neg, s_allHard hT0]
      · have h : ∀ p, p ≤ (tpn T).val → zq (d + 3) mX11_sweep Q 42 [some (.ref 87), some (.int (nI w)), some (.int (nI (tsw T p))), some (.int (nI p))] [] sg (rg b) I L = zq (d + 3) mX11_sweep Q 42 [some (.ref 87), some (.int (nI w)), some (.int (nI (tsw T (tpn T)))), some (.int (nI (tpn T)))] [] sg (rg b) I L := by
          refine z_iter _ (fun p hp => ?_)
          have := trk_le T p
          rw [eX11_sweep_42]
          simp (disch := omega) only [bX11_sweep, zZ, h0, h3, if_neg, s_rank hT0 hp, pk_sub]
          rfl
        simp (disch := omega) only [nX11_sweep, bX11_sweep, zZ, s_in, h0, if_pos, if_neg]
        refine (h 0 (Nat.zero_le _)).trans ?_
        rw [eX11_sweep_42]
        have : w = 1 ∨ w = 2 := by omega
        rcases this with rfl | rfl
        · simp (disch := omega) only [bX11_sweep, zZ, h0, if_pos, if_neg, nI_l, s_part, lN_i, pk_sub, decide_true]
        · simp (disch := omega) only [bX11_sweep, zZ, h0, if_pos, if_neg, nI_l, s_part, lN_i, pk_sub]
          rfl
  · rw [if_neg (fun q => hq q)]
    simp (disch := omega) only [nX11_sweep, bX11_sweep, zZ, s_in, zV3, if_pos, if_neg]
end S

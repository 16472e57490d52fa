/-! THE MODEL: odds -/
def zlb (L : zLm) (A B : Nat → Nat) : zLm := fun a j => if a = 95 ∧ j < 3750 then lN (A j) else if a = 96 ∧ j < 3750 then lN (B j) else L a j
section ZLB
variable {L : zLm} {A B : Nat → Nat}
theorem zlb_95 {j : Nat} (h : j < 3750) : zlb L A B 95 j = lN (A j) := if_pos ⟨rfl, h⟩
theorem zlb_96 {j : Nat} (h : j < 3750) : zlb L A B 96 j = lN (B j) := (if_neg (by omega)).trans (if_pos ⟨rfl, h⟩)
theorem zlb_r {a : Nat} (h1 : a ≠ 95) (h2 : a ≠ 96) : zlb L A B a = L a := by
  funext j; unfold zlb; rw [if_neg (fun q => h1 q.1), if_neg (fun q => h2 q.1)]
theorem zlb_u5 {j x : Nat} (h : j < 3750) : zup (zlb L A B) 95 j (lN x) = zlb L (pup A j x) B := by
  funext a i; unfold zup zlb pup
  by_cases c : a = 95 ∧ i = j
  · rw [if_pos c, if_pos (by omega), if_pos c.2]
  · rw [if_neg c]
    by_cases c2 : a = 95 ∧ i < 3750
    · rw [if_pos c2, if_pos c2, if_neg (fun q => c ⟨c2.1, q⟩)]
    · rw [if_neg c2, if_neg c2]
theorem zlb_u6 {j x : Nat} (h : j < 3750) : zup (zlb L A B) 96 j (lN x) = zlb L A (pup B j x) := by
  funext a i; unfold zup zlb pup
  by_cases c : a = 96 ∧ i = j
  · rw [if_pos c, if_neg (by omega), if_pos (by omega), if_pos c.2]
  · rw [if_neg c]
    by_cases c2 : a = 96 ∧ i < 3750
    · rw [if_neg (by omega), if_pos c2, if_neg (by omega), if_pos c2, if_neg (fun q => c ⟨c2.1, q⟩)]
    · by_cases c3 : a = 95 ∧ i < 3750
      · rw [if_pos c3, if_pos c3]
      · rw [if_neg c3, if_neg c2, if_neg c3, if_neg c2]
end ZLB
theorem zpm_cg {I : zIm} {nx nx' : Nat → Nat} {r : Nat} {lot fd : Int32} (h : ∀ k, k < 4 → nx k = nx' k) : zpm I nx r lot fd = zpm I nx' r lot fd := by
  funext a j; unfold zpm
  by_cases h1 : a = 94
  · rw [if_pos h1, if_pos h1]
    by_cases h2 : j < 4
    · rw [if_pos h2, if_pos h2, h j h2]
    · rw [if_neg h2, if_neg h2]
  · rw [if_neg h1, if_neg h1]
section S
variable {d : Nat} {Q : zPo} {I : zIm} {L : zLm} {b : Bool} {T : zT} {S : zU} {nx : Nat → Nat} {r : Nat} {lot fd : Int32} {A B : Nat → Nat}
theorem s_state (hr : r < 6) (h5 : ∀ k, k < 4 → nx k < 5) : zW (d + 1) mX11_state [.ref 87] sg (rg b) (zpm I nx r lot fd) L Q = Q (some (.int (nI (enc r nx)))) sg (rg b) (zpm I nx r lot fd) L := by
  have h0 := h5 0 (by decide); have h1 := h5 1 (by decide); have h2 := h5 2 (by decide); have h3 := h5 3 (by decide)
  simp (disch := omega) only [nX11_state, bX11_state, zZ, zpm_13, zpm_94]
  rfl
theorem s_isAt {s : Nat} (hs : s < 3750) : zW (d + 1) mX11_isAt [.ref 87, .int (nI s)] sg (rg b) (zpm I nx r lot fd) L Q = Q none sg (rg b) (zpm I (dnx s) (s % 6) lot fd) L := by
  have h : ∀ nx v k, k < 4 → v < 3750 → zq d mX11_isAt Q 15 [some (.ref 87), some (.int (nI s)), some (.int (nI v)), some (.int (nI k))] [] sg (rg b) (zpm I nx (s % 6) lot fd) L = zq d mX11_isAt Q 15 [some (.ref 87), some (.int (nI s)), some (.int (nI (v / 5))), some (.int (nI (k + 1)))] [] sg (rg b) (zpm I (pup nx k (v % 5)) (s % 6) lot fd) L := by
    intro nx v k hk hv
    rw [eX11_isAt_15]
    simp (disch := omega) only [bX11_isAt, zZ, if_neg, pk_div, pk_rm, zpm_u94, show ¬ nI 5 = 0 from by decide]
  simp (disch := omega) only [nX11_isAt, bX11_isAt, zZ, pk_div, pk_rm, zpm_u13, show ¬ nI 6 = 0 from by decide]
  rw [h _ _ 0 (by decide) (by omega), h _ _ 1 (by decide) (by omega), h _ _ 2 (by decide) (by omega), h _ _ 3 (by decide) (by omega)]
  rw [eX11_isAt_15]
  simp (disch := omega) only [bX11_isAt, zZ, if_pos]
  rw [zpm_cg (nx' := dnx s)]
  intro k hk
  have : k = 0 ∨ k = 1 ∨ k = 2 ∨ k = 3 := by omega
  rcases this with rfl | rfl | rfl | rfl <;> rfl
/-- what a state's share does -/
def zin1 (T : zT) (ks : List Nat) (k fr x : Nat) (B B' : Nat → Nat) : Prop := tok T ks.length B' ∧ sN B' 3750 ≤ sN B 3750 + x ∧ ∀ p, tPh T p ks B' 3750 = tPh T p ks B 3750 + tV T p (k :: ks) (fr % 6) (dnx fr) x
theorem s_spreads {k fr : Nat} {ks : List Nat} (hT : zTo T (I 89)) (hw : zTw T) (hks : ∀ j, j ∈ ks → j < 4) (hk : k < (tsn T).val) (hf : fr < 3750) (hv : fr % 6 < (tpn T).val ∧ tnk T (dnx fr)) (hB : tok T ks.length B) (hd : 60 ^ (ks.length + 1) ∣ A fr) (hA : A fr < 2 ^ 62)
    (hQ : ∀ nx' r' B', zin1 T ks k fr (A fr) B B' → Q none sg (rg b) (zpm I nx' r' lot fd) (zlb L A B')) : zW (d + 3) mX11_spreads [.ref 87, .int (nI k), .int (nI fr)] sg (rg b) (zpm I nx r lot fd) (zlb L A B) Q := by
  have hT' : ∀ nx r lot fd, zTo T (zpm I nx r lot fd 89) := fun _ _ _ _ => by rw [zpm_r (by decide) (by decide)]; exact hT
  have hl := hv.2 k hk
  have hl2 := tfi_lt (r := fr % 6) hl
  have h5 : ∀ j, j < 4 → pup (dnx fr) k (tfi T k (fr % 6) (dnx fr k)).2 j < 5 := fun j hj => by
    by_cases c : j = k
    · rw [c, pup_s]; omega
    · rw [pup_n c]; exact dnx_lt _ _
  have hn := tnk_up hv.2 hl2
  have h6 : fr % 6 < 6 := by omega
  simp (disch := omega) only [nX11_spreads, bX11_spreads, zZ, s_isAt hf, s_finds hT hw hk hv.1 rfl hl]
  by_cases c : (tfi T k (fr % 6) (dnx fr k)).1 = true ∧ tnw T (fr % 6) ≠ 0
  · have hc0 := cnt_pos _ (tnw_64 T (fr % 6)) c.2
    have hc1 := cnt_le (tnw T (fr % 6)) 8
    have h64 := tnw_64 T (fr % 6)
    have c2 := c.2
    simp (disch := omega) only [c.1, zZ, if_true, bX11_spreads, zpm_13, s_noWorse (hT' _ _ _ _) hv.1, if_neg, s_ones h64, nI_l, zlb_95, pk_lDiv]
    have hne : ¬ lN (cnt (tnw T (fr % 6)) 8) = 0 := by rw [lN_0, pk_lEQ (by omega) (by omega)]; omega
    simp only [hne, zZ]
    have hx := dv_div (cnw_60 hv.1 c2) hc0 hd
    have h : ∀ q, q ≤ (tpn T).val → ∀ r' B', tok T ks.length B' → sN B' 3750 ≤ sN B 3750 + cnt (tnw T (fr % 6)) q * (A fr / cnt (tnw T (fr % 6)) 8) → (∀ p, tPh T p ks B' 3750 = tPh T p ks B 3750 + sB (tnw T (fr % 6)) (fun q => tV T p ks q (pup (dnx fr) k (tfi T k (fr % 6) (dnx fr k)).2) (A fr / cnt (tnw T (fr % 6)) 8)) q) →
        zq (d + 2) mX11_spreads Q 66 [some (.ref 87), some (.int (nI k)), some (.int (nI fr)), some (.int (nI (tnw T (fr % 6)))), some (.long (lN (A fr / cnt (tnw T (fr % 6)) 8))), none, some (.int (nI q))] [] sg (rg b) (zpm I (pup (dnx fr) k (tfi T k (fr % 6) (dnx fr k)).2) r' lot fd) (zlb L A B') := by
      refine z_down _ ?_ ?_
      · intro r' B' i1 i2 i3
        rw [eX11_spreads_66]
        simp (disch := omega) only [bX11_spreads, zZ, (hT' _ _ _ _).1, if_pos]
        refine hQ _ _ _ ⟨i1, Nat.le_trans i2 ?_, fun p => ?_⟩
        · have e1 : cnt (tnw T (fr % 6)) 8 = cnt (tnw T (fr % 6)) (tpn T) := cnt_top (tnu_lt T (fr % 6) (tpn T)) (by omega)
          rw [← e1]
          have := Nat.mul_div_le (A fr) (cnt (tnw T (fr % 6)) 8)
          omega
        · rw [i3 p, tV_c, if_pos c]
      · intro q hq ih r' B' i1 i2 i3
        have hq6 : q < 6 := by omega
        have he := enc_lt hq6 h5
        rw [eX11_spreads_66]
        rcases Nat.mod_two_eq_zero_or_one (tnw T (fr % 6) / 2 ^ q) with e | e
        · simp (disch := omega) only [bX11_spreads, zZ, (hT' _ _ _ _).1, if_neg, zpm_u13, s_state hq6 h5, zlb_96, b_tst, e]
          rw [lN_0, lN_add, zlb_u6 he]
          simp only [Nat.add_zero, pup_id]
          refine ih _ _ i1 ?_ (fun p => ?_)
          · rw [cnt_s _ q, e]; exact i2
          · rw [i3 p, sB_s, e]; rfl
        · simp (disch := omega) only [bX11_spreads, zZ, (hT' _ _ _ _).1, if_neg, zpm_u13, s_state hq6 h5, zlb_96, b_tst, e, if_pos, lN_add, zlb_u6]
          have hz := fun p => tok_add (p := p) i1 hks hq hn h5 hx
          refine ih _ _ (hz 0).1 ?_ (fun p => ?_)
          · rw [(hz 0).2.1, cnt_s _ q, e, Nat.add_mul, Nat.one_mul]; omega
          · rw [(hz p).2.2, i3 p, sB_s, e, if_pos rfl, Nat.add_assoc]
    exact h 0 (Nat.zero_le _) _ _ hB (Nat.le_add_right _ _) (fun p => (Nat.add_zero _).symm)
  · have hz := fun p => tok_add (p := p) hB hks hv.1 hn h5 (Nat.dvd_trans ⟨60, Nat.pow_succ ..⟩ hd)
    have hfin : zin1 T ks k fr (A fr) B (pup B (enc (fr % 6) (pup (dnx fr) k (tfi T k (fr % 6) (dnx fr k)).2)) (B (enc (fr % 6) (pup (dnx fr) k (tfi T k (fr % 6) (dnx fr k)).2)) + A fr)) :=
      ⟨(hz 0).1, Nat.le_of_eq (hz 0).2.1, fun p => by rw [(hz p).2.2, tV_c, if_neg c]⟩
    have he := enc_lt h6 h5
    by_cases c1 : (tfi T k (fr % 6) (dnx fr k)).1 = true
    · have c2 : tnw T (fr % 6) = 0 := Nat.eq_zero_of_not_pos (fun q => c ⟨c1, by omega⟩)
      simp (disch := omega) only [c1, zZ, if_true, bX11_spreads, zpm_13, s_noWorse (hT' _ _ _ _) hv.1, c2, s_state h6 h5, zlb_95, zlb_96, lN_add, zlb_u6, if_neg]
      exact hQ _ _ _ hfin
    · simp (disch := omega) only [c1, zZ, if_false, bX11_spreads, Bool.false_eq_true, s_state h6 h5, zlb_95, zlb_96, lN_add, zlb_u6, if_neg]
      exact hQ _ _ _ hfin
end S

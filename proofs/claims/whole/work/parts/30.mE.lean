/-! THE MODEL: odds -/
def zlb (L : zLm) (A B : Nat → Nat) : zLm := fun a j => if a = 95 ∧ j < 3750 then lN (A j) else if a = 96 ∧ j < 3750 then lN (B j) else L a j
section ZLB
variable {L : zLm} {A B : Nat → Nat}
theorem zlb_95 {j : Nat} (h : j < 3750) : zlb L A B 95 j = lN (A j) := if_pos ⟨rfl, h⟩
theorem zlb_96 {j : Nat} (h : j < 3750) : zlb L A B 96 j = lN (B j) := (if_neg (by omega)).trans (if_pos ⟨rfl, h⟩)
theorem zlb_r {a : Nat} (h1 : a ≠ 95) (h2 : a ≠ 96) : zlb L A B a = L a := by
  funext j; unfold zlb; rw [if_neg (fun q => h1 q.1), if_neg (fun q => h2 q.1)]
theorem zlb_u5 {j x : Nat} (h : j < 3750) : zup (zlb L A B) 95 j (lN x) = zlb L (pup A j x) B := by
  funext a i; unfold zup zlb pup
  by_cases c : a = 95 ∧ i = j
  · rw [if_pos c, if_pos (by omega), if_pos c.2]
  · rw [if_neg c]
    by_cases c2 : a = 95 ∧ i < 3750
    · rw [if_pos c2, if_pos c2, if_neg (fun q => c ⟨c2.1, q⟩)]
    · rw [if_neg c2, if_neg c2]
theorem zlb_u6 {j x : Nat} (h : j < 3750) : zup (zlb L A B) 96 j (lN x) = zlb L A (pup B j x) := by
  funext a i; unfold zup zlb pup
  by_cases c : a = 96 ∧ i = j
  · rw [if_pos c, if_neg (by omega), if_pos (by omega), if_pos c.2]
  · rw [if_neg c]
    by_cases c2 : a = 96 ∧ i < 3750
    · rw [if_neg (by omega), if_pos c2, if_neg (by omega), if_pos c2, if_neg (fun q => c ⟨c2.1, q⟩)]
    · by_cases c3 : a = 95 ∧ i < 3750
      · rw [if_pos c3, if_pos c3]
      · rw [if_neg c3, if_neg c2, if_neg c3, if_neg c2]
end ZLB
theorem zpm_cg {I : zIm} {nx nx' : Nat → Nat} {r : Nat} {lot fd : Int32} (h : ∀ k, k < 4 → nx k = nx' k) : zpm I nx r lot fd = zpm I nx' r lot fd := by
  funext a j; unfold zpm
  by_cases h1 : a = 94
  · rw [if_pos h1, if_pos h1]
    by_cases h2 : j < 4
    · rw [if_pos h2, if_pos h2, h j h2]
    · rw [if_neg h2, if_neg h2]
  · rw [if_neg h1, if_neg h1]
section S
variable {d : Nat} {Q : zPo} {I : zIm} {L : zLm} {b : Bool} {T : zT} {S : zU} {nx : Nat → Nat} {r : Nat} {lot fd : Int32} {A B : Nat → Nat}
theorem s_state (hr : r < 6) (h5 : ∀ k, k < 4 → nx k < 5) : zW (d + 1) mX11_state [.ref 87] sg (rg b) (zpm I nx r lot fd) L Q = Q (some (.int (nI (enc r nx)))) sg (rg b) (zpm I nx r lot fd) L := by
  have h0 := h5 0 (by decide); have h1 := h5 1 (by decide); have h2 := h5 2 (by decide); have h3 := h5 3 (by decide)
  simp (disch := omega) only [nX11_state, bX11_state, zZ, zpm_13, zpm_94]
  rfl
theorem s_isAt {s : Nat} (hs : s < 3750) : zW (d + 1) mX11_isAt [.ref 87, .int (nI s)] sg (rg b) (zpm I nx r lot fd) L Q = Q none sg (rg b) (zpm I (dnx s) (s % 6) lot fd) L := by
  have h : ∀ nx v k, k < 4 → v < 3750 → zq d mX11_isAt Q 15 [some (.ref 87), some (.int (nI s)), some (.int (nI v)), some (.int (nI k))] [] sg (rg b) (zpm I nx (s % 6) lot fd) L = zq d mX11_isAt Q 15 [some (.ref 87), some (.int (nI s)), some (.int (nI (v / 5))), some (.int (nI (k + 1)))] [] sg (rg b) (zpm I (pup nx k (v % 5)) (s % 6) lot fd) L := by
    intro nx v k hk hv
    rw [eX11_isAt_15]
    simp (disch := omega) only [bX11_isAt, zZ, if_neg, pk_div, pk_rm, zpm_u94, show ¬ nI 5 = 0 from by decide]
  simp (disch := omega) only [nX11_isAt, bX11_isAt, zZ, pk_div, pk_rm, zpm_u13, show ¬ nI 6 = 0 from by decide]
  rw [h _ _ 0 (by decide) (by omega), h _ _ 1 (by decide) (by omega), h _ _ 2 (by decide) (by omega), h _ _ 3 (by decide) (by omega)]
  rw [eX11_isAt_15]
  simp (disch := omega) only [bX11_isAt, zZ, if_pos]
  rw [zpm_cg (nx' := dnx s)]
  intro k hk
  have : k = 0 ∨ k = 1 ∨ k = 2 ∨ k = 3 := by omega
  rcases this with rfl | rfl | rfl | rfl <;> rfl
/-- what a state's share does -/
def zin1 (T : zT) (ks : List Nat) (k fr x : Nat) (B B' : Nat → Nat) : Prop := tok T ks.length B' ∧ sN B' 3750 ≤ sN B 3750 + x ∧ ∀ p, tPh T p ks B' 3750 = tPh T p ks B 3750 + tV T p (k :: ks) (fr % 6) (dnx fr) x
theorem s_spreads {k fr : Nat} {ks : List Nat} (hT : zTo T (I 89)) (hw : zTw T) (hks : ∀ j, j ∈ ks → j < 4) (hk : k < (tsn T).val) (hf : fr < 3750) (hv : fr % 6 < (tpn T).val ∧ tnk T (dnx fr)) (hB : tok T ks.length B) (hd : 60 ^ (ks.length + 1) ∣ A fr) (hA : A fr < 2 ^ 62)
    (hQ : ∀ nx' r' B', zin1 T ks k fr (A fr) B B' → Q none sg (rg b) (zpm I nx' r' lot fd) (zlb L A B')) : zW (d + 3) mX11_spreads [.ref 87, .int (nI k), .int (nI fr)] sg (rg b) (zpm I nx r lot fd) (zlb L A B) Q := by
  have hT' : ∀ nx r lot fd, zTo T (zpm I nx r lot fd 89) := fun _ _ _ _ => by rw [zpm_r (by decide) (by decide)]; exact hT
  have hl := hv.2 k hk
  have hl2 := tfi_lt (r := fr % 6) hl
  have h5 : ∀ j, j < 4 → pup (dnx fr) k (tfi T k (fr % 6) (dnx fr k)).2 j < 5 := fun j hj => by
    by_cases c : j = k
    · rw [c, pup_s]; omega
    · rw [pup_n c]; exact dnx_lt _ _
  have hn := tnk_up hv.2 hl2
  have h6 : fr % 6 < 6 := by omega
  simp (disch := omega) only [nX11_spreads, bX11_spreads, zZ, s_isAt hf, s_finds hT hw hk hv.1 rfl hl]
  by_cases c : (tfi T k (fr % 6) (dnx fr k)).1 = true ∧ tnw T (fr % 6) ≠ 0
  · have hc0 := cnt_pos _ (tnw_64 T (fr % 6)) c.2
    have hc1 := cnt_le (tnw T (fr % 6)) 8
    have h64 := tnw_64 T (fr % 6)
    have c2 := c.2
    simp (disch := omega) only [c.1, zZ, if_true, bX11_spreads, zpm_13, s_noWorse (hT' _ _ _ _) hv.1, if_neg, s_ones h64, nI_l, zlb_95, pk_lDiv]
    have hne : ¬ lN (cnt (tnw T (fr % 6)) 8) = 0 := by rw [lN_0, pk_lEQ (by omega) (by omega)]; omega
    simp only [hne, zZ]
    have hx := dv_div (cnw_60 hv.1 c2) hc0 hd
    have h : ∀ q, q ≤ (tpn T).val → ∀ r' B', tok T ks.length B' → sN B' 3750 ≤ sN B 3750 + cnt (tnw T (fr % 6)) q * (A fr / cnt (tnw T (fr % 6)) 8) → (∀ p, tPh T p ks B' 3750 = tPh T p ks B 3750 + sB (tnw T (fr % 6)) (fun q => tV T p ks q (pup (dnx fr) k (tfi T k (fr % 6) (dnx fr k)).2) (A fr / cnt (tnw T (fr % 6)) 8)) q) →
        zq (d + 2) mX11_spreads Q 66 [some (.ref 87), some (.int (nI k)), some (.int (nI fr)), some (.int (nI (tnw T (fr % 6)))), some (.long (lN (A fr / cnt (tnw T (fr % 6)) 8))), none, some (.int (nI q))] [] sg (rg b) (zpm I (pup (dnx fr) k (tfi T k (fr % 6) (dnx fr k)).2) r' lot fd) (zlb L A B') := by
      refine z_down _ ?_ ?_
      · intro r' B' i1 i2 i3
        rw [eX11_spreads_66]
        simp (disch := omega) only [bX11_spreads, zZ, (hT' _ _ _ _).1, if_pos]
        refine hQ _ _ _ ⟨i1, Nat.le_trans i2 ?_, fun p => ?_⟩
        · have e1 : cnt (tnw T (fr % 6)) 8 = cnt (tnw T (fr % 6)) (tpn T) := cnt_top (tnu_lt T (fr % 6) (tpn T)) (by omega)
          rw [← e1]
          have := Nat.mul_div_le (A fr) (cnt (tnw T (fr % 6)) 8)
          omega
        · rw [i3 p, tV_c, if_pos c]
      · intro q hq ih r' B' i1 i2 i3
        have hq6 : q < 6 := by omega
        have he := enc_lt hq6 h5
        rw [eX11_spreads_66]
        rcases Nat.mod_two_eq_zero_or_one (tnw T (fr % 6) / 2 ^ q) with e | e
        · simp (disch := omega) only [bX11_spreads, zZ, (hT' _ _ _ _).1, if_neg, zpm_u13, s_state hq6 h5, zlb_96, b_tst, e]
          rw [lN_0, lN_add, zlb_u6 he]
          simp only [Nat.add_zero, pup_id]
          refine ih _ _ i1 ?_ (fun p => ?_)
          · rw [cnt_s _ q, e]; exact i2
          · rw [i3 p, sB_s, e]; rfl
        · simp (disch := omega) only [bX11_spreads, zZ, (hT' _ _ _ _).1, if_neg, zpm_u13, s_state hq6 h5, zlb_96, b_tst, e, if_pos, lN_add, zlb_u6]
          have hz := fun p => tok_add (p := p) i1 hks hq hn h5 hx
          refine ih _ _ (hz 0).1 ?_ (fun p => ?_)
          · rw [(hz 0).2.1, cnt_s _ q, e, Nat.add_mul, Nat.one_mul]; omega
          · rw [(hz p).2.2, i3 p, sB_s, e, if_pos rfl, Nat.add_assoc]
    exact h 0 (Nat.zero_le _) _ _ hB (Nat.le_add_right _ _) (fun p => (Nat.add_zero _).symm)
  · have hz := fun p => tok_add (p := p) hB hks hv.1 hn h5 (Nat.dvd_trans ⟨60, Nat.pow_succ ..⟩ hd)
    have hfin : zin1 T ks k fr (A fr) B (pup B (enc (fr % 6) (pup (dnx fr) k (tfi T k (fr % 6) (dnx fr k)).2)) (B (enc (fr % 6) (pup (dnx fr) k (tfi T k (fr % 6) (dnx fr k)).2)) + A fr)) :=
      ⟨(hz 0).1, Nat.le_of_eq (hz 0).2.1, fun p => by rw [(hz p).2.2, tV_c, if_neg c]⟩
    have he := enc_lt h6 h5
    by_cases c1 : (tfi T k (fr % 6) (dnx fr k)).1 = true
    · have c2 : tnw T (fr % 6) = 0 := Nat.eq_zero_of_not_pos (fun q => c ⟨c1, by omega⟩)
      simp (disch := omega) only [c1, zZ, if_true, bX11_spreads, zpm_13, s_noWorse (hT' _ _ _ _) hv.1, c2, s_state h6 h5, zlb_95, zlb_96, lN_add, zlb_u6, if_neg]
      exact hQ _ _ _ hfin
    · simp (disch := omega) only [c1, zZ, if_false, bX11_spreads, Bool.false_eq_true, s_state h6 h5, zlb_95, zlb_96, lN_add, zlb_u6, if_neg]
      exact hQ _ _ _ hfin
theorem lg_le {x y : Int64} : lg_cmp x y ≤ nI 0 ↔ x ≤ y := by
  unfold lg_cmp
  constructor
  · intro h
    by_cases c : x > y
    · rw [if_pos c] at h; exact absurd h (by decide +kernel)
    · exact Int64.not_lt.1 c
  · intro h
    have c : ¬ x > y := Int64.not_lt.2 h
    rw [if_neg c]
    split <;> decide +kernel
theorem zlb_cg {A A' : Nat → Nat} (h : ∀ s, s < 3750 → A s = A' s) : zlb L A B = zlb L A' B := by
  funext a j; unfold zlb
  by_cases c : a = 95 ∧ j < 3750
  · rw [if_pos c, if_pos c, h j c.2]
  · rw [if_neg c, if_neg c]
theorem zlb_cg6 {B' : Nat → Nat} (h : ∀ s, s < 3750 → B s = B' s) : zlb L A B = zlb L A B' := by
  funext a j; unfold zlb
  by_cases c : a = 96 ∧ j < 3750
  · rw [if_pos c, if_pos c, h j c.2]
  · rw [if_neg c, if_neg c]
theorem zlb_of : L = zlb L (fun j => (L 95 j).toBitVec.toNat) (fun j => (L 96 j).toBitVec.toNat) := by
  have hs : ∀ x : Int64, lN x.toBitVec.toNat = x := fun x => by
    apply Int64.toBitVec_inj.1
    show BitVec.ofNat 64 x.toBitVec.toNat = x.toBitVec
    exact BitVec.eq_of_toNat_eq (by rw [BitVec.toNat_ofNat, Nat.mod_eq_of_lt x.toBitVec.isLt])
  funext a j; unfold zlb
  split
  · rename_i h; rw [h.1]; exact (hs _).symm
  · split
    · rename_i h; rw [h.1]; exact (hs _).symm
    · rfl
theorem s_spreadsAll {k : Nat} {ks : List Nat} (hT : zTo T (I 89)) (hw : zTw T) (hks : ∀ j, j ∈ ks → j < 4) (hk : k < (tsn T).val) (hA : tok T (ks.length + 1) A) (hM : sN A 3750 < 2 ^ 62)
    (hQ : ∀ nx' r' B', tok T ks.length B' → sN B' 3750 ≤ sN A 3750 → (∀ p, tPh T p ks B' 3750 = tPh T p (k :: ks) A 3750) → Q none sg (rg b) (zpm I nx' r' lot fd) (zlb L B' B')) : zW (d + 4) mX11_spreadsAll [.ref 87, .int (nI k)] sg (rg b) (zpm I nx r lot fd) (zlb L A B) Q := by
  have h3 : ∀ nx r B', tok T ks.length B' → sN B' 3750 ≤ sN A 3750 → (∀ p, tPh T p ks B' 3750 = tPh T p (k :: ks) A 3750) → ∀ i, i ≤ 3750 → ∀ A', (∀ s, s < i → A' s = B' s) → zq (d + 3) mX11_spreadsAll Q 56 [some (.ref 87), some (.int (nI k)), some (.int (nI i))] [] sg (rg b) (zpm I nx r lot fd) (zlb L A' B') := by
    intro nx r B' i1 i2 i3
    refine z_down 3750 ?_ ?_
    · intro A' hA'
      rw [eX11_spreadsAll_56]
      simp (disch := omega) only [bX11_spreadsAll, zZ, if_pos]
      rw [zlb_cg hA']
      exact hQ _ _ _ i1 i2 i3
    · intro i hi ih A' hA'
      rw [eX11_spreadsAll_56]
      simp (disch := omega) only [bX11_spreadsAll, zZ, if_neg, zlb_96, zlb_u5]
      refine ih _ (fun s hs => ?_)
      by_cases c : s = i
      · rw [c, pup_s]
      · rw [pup_n c]; exact hA' s (by omega)
  have h2 : ∀ i, i ≤ 3750 → ∀ nx r B', tok T ks.length B' → sN B' 3750 ≤ sN A i → (∀ p, tPh T p ks B' 3750 = tPh T p (k :: ks) A i) → zq (d + 3) mX11_spreadsAll Q 24 [some (.ref 87), some (.int (nI k)), some (.int (nI i))] [] sg (rg b) (zpm I nx r lot fd) (zlb L A B') := by
    refine z_down 3750 ?_ ?_
    · intro nx r B' i1 i2 i3
      rw [eX11_spreadsAll_24]
      simp (disch := omega) only [bX11_spreadsAll, zZ, if_pos]
      exact h3 nx r B' i1 i2 i3 0 (Nat.zero_le _) A (fun s hs => absurd hs (Nat.not_lt_zero _))
    · intro i hi ih nx r B' i1 i2 i3
      have hle := sN_le (f := A) 3750 hi
      have hmo := sN_mono (f := A) (n := i + 1) 3750 hi
      have hs1 : sN A (i + 1) = sN A i + A i := rfl
      have hp1 : ∀ p, tPh T p (k :: ks) A (i + 1) = tPh T p (k :: ks) A i + tV T p (k :: ks) (i % 6) (dnx i) (A i) := fun p => rfl
      rw [eX11_spreadsAll_24]
      simp (disch := omega) only [bX11_spreadsAll, zZ, if_neg, zlb_95, lg_le, lN_0, pk_lLE]
      by_cases c : A i = 0
      · rw [if_pos (Nat.le_of_eq c)]
        refine ih _ _ _ i1 (by omega) (fun p => ?_)
        rw [i3 p, hp1 p, c, tV_0, Nat.add_zero]
      · rw [if_neg (fun q => c (Nat.le_zero.1 q))]
        have hv := hA i hi
        refine s_spreads hT hw hks hk hi (hv.2 c) i1 hv.1 (by omega) (fun nx' r' B'' hz => ?_)
        simp only [zZ, bX11_spreadsAll]
        refine ih _ _ _ hz.1 ?_ (fun p => ?_)
        · have := hz.2.1; omega
        · rw [hz.2.2 p, i3 p, hp1 p]
  have h1 : ∀ i, i ≤ 3750 → ∀ B', (∀ s, s < i → B' s = 0) → zq (d + 3) mX11_spreadsAll Q 2 [some (.ref 87), some (.int (nI k)), some (.int (nI i))] [] sg (rg b) (zpm I nx r lot fd) (zlb L A B') := by
    refine z_down 3750 ?_ ?_
    · intro B' hB'
      rw [eX11_spreadsAll_2]
      simp (disch := omega) only [bX11_spreadsAll, zZ, if_pos]
      refine h2 0 (Nat.zero_le _) _ _ _ (fun s hs => ?_) ?_ (fun p => ?_)
      · rw [hB' s hs]; exact ⟨Nat.dvd_zero _, fun q => absurd rfl q⟩
      · rw [sN_cg 3750 hB', sN_0]; exact Nat.zero_le _
      · show sN _ 3750 = 0
        rw [sN_cg (g := fun _ => 0) 3750 (fun s hs => by simp only [hB' s hs]; exact tV_0 _ _ _), sN_0]
    · intro i hi ih B' hB'
      rw [eX11_spreadsAll_2]
      simp (disch := omega) only [bX11_spreadsAll, zZ, if_neg, lN_0, zlb_u6]
      refine ih _ (fun s hs => ?_)
      by_cases c : s = i
      · rw [c, pup_s]
      · rw [pup_n c]; exact hB' s (by omega)
  simp (disch := omega) only [nX11_spreadsAll, bX11_spreadsAll]
  exact h1 0 (Nat.zero_le _) B (fun s hs => absurd hs (Nat.not_lt_zero _))
def cW : Nat := 167961600000000
theorem cW_60 : cW = 60 ^ 8 := by decide
/-- every sixth from p on -/
def sS (A : Nat → Nat) (p i : Nat) : Nat := sN (fun s => if s % 6 = p then A s else 0) i
theorem sS_6 {A : Nat → Nat} {p i : Nat} (hp : p < 6) (h : i % 6 = p) : sS A p (i + 6) = sS A p i + A i := by
  have e : sS A p (i + 6) = sS A p i + (if i % 6 = p then A i else 0) + (if (i + 1) % 6 = p then A (i + 1) else 0) + (if (i + 2) % 6 = p then A (i + 2) else 0) + (if (i + 3) % 6 = p then A (i + 3) else 0) + (if (i + 4) % 6 = p then A (i + 4) else 0) + (if (i + 5) % 6 = p then A (i + 5) else 0) := rfl
  rw [e, if_pos h, if_neg (by omega), if_neg (by omega), if_neg (by omega), if_neg (by omega), if_neg (by omega)]
  simp only [Nat.add_zero]
theorem sS_0 {A : Nat → Nat} {p : Nat} (hp : p < 6) : sS A p p = 0 := by
  unfold sS
  rw [sN_cg (g := fun _ => 0) p (fun i hi => if_neg (by omega)), sN_0]
theorem sS_up {A : Nat → Nat} {p n : Nat} (hn : n % 6 = 0) (hp : p < 6) : ∀ j, j ≤ p → sS A p (n + j) = sS A p n
  | 0, _ => rfl
  | j + 1, h => by
    have ih := sS_up (A := A) hn hp j (by omega)
    have e : sS A p (n + (j + 1)) = sS A p (n + j) + (if (n + j) % 6 = p then A (n + j) else 0) := rfl
    rw [e, ih, if_neg (by omega)]; rfl
def r_odds (T : zT) (S : zU) (n p what : Int32) : Int64 := if (0 ≤ n.toInt ∧ n.toInt < 3) ∧ (0 ≤ p.toInt ∧ p.toInt < ((tpn T).val : Int)) ∧ (0 ≤ what.toInt ∧ what.toInt < 2) then lN (gpt (tV T p.toInt.toNat (rl (tsn T) (n.toInt.toNat * (tsn T).val) 0) (srg S) (snx S) cW) cW (decide (what = nI 0))) else -1
theorem m_odds {n p what : Int32} (hT : zTo T (I 89)) (hw : zTw T) (hS : zSo T S (I 91)) (hSw : zSw T S)
    (hQ : ∀ I' L', kq I I' → (∀ a, a ≠ 95 → a ≠ 96 → L' a = L a) → Q (some (.long (r_odds T S n p what))) sg (rg b) I' L') : zW (d + 6) mX11_odds [.ref 87, .int n, .int p, .int what] sg (rg b) I L Q := by
  have hT0 := hT
  obtain ⟨h0, h1, h2, h3, h4, h5, h6⟩ := hT
  obtain ⟨g0, g1, g2, g3, g4, g5, g6, g7⟩ := hS
  unfold r_odds at hQ
  by_cases c1 : (0 ≤ n.toInt ∧ n.toInt < 3)
  · by_cases c2 : (0 ≤ p.toInt ∧ p.toInt < ((tpn T).val : Int))
    · by_cases c3 : (0 ≤ what.toInt ∧ what.toInt < 2)
      · rw [if_pos ⟨c1, c2, c3⟩] at hQ
        obtain ⟨n, hn, rfl⟩ := v_of (n := 3) (v := n) (by omega) (by omega)
        obtain ⟨p, hp, rfl⟩ := v_of (by omega) c2
        obtain ⟨w, hw', rfl⟩ := v_of (n := 2) (v := what) (by omega) (by omega)
        simp (disch := omega) only [nI_toInt, Int.toNat_natCast] at hQ
        have hr := hSw.1 (by omega)
        have hnk := hSw.2.1
        have h5n := hSw.2.2
        rw [show zrv T (srg S) = nI (srg S) from if_neg (by omega)] at g0
        have hN : n * (tsn T).val ≤ 8 := by
          have : n * (tsn T).val ≤ 2 * 4 := Nat.mul_le_mul (by omega) (by omega)
          omega
        have hle := tV_le (T := T) (p := p) (rl (tsn T) (n * (tsn T).val) 0) (srg S) (snx S) cW
        have hcW : cW < 2 ^ 62 := by decide
        have hcW0 : 0 < cW := by decide
        have f3 : ∀ m, m ≤ 625 → ∀ nx r A B l6, (∀ s, s < 3750 → A s ≤ cW) → sS A p 3750 = tV T p (rl (tsn T) (n * (tsn T).val) 0) (srg S) (snx S) cW → zq (d + 5) mX11_odds Q 123 [some (.ref 87), some (.int (nI n)), some (.int (nI p)), some (.int (nI w)), some (.long (lN cW)), none, some (.long (lN (sS A p (p + 6 * m)))), l6, some (.int (nI (p + 6 * m)))] [] sg (rg b) (zpm I nx r (I 87 1) (I 87 15)) (zlb L A B) := by
          refine z_down 625 ?_ ?_
          · intro nx r A B l6 _ e
            rw [eX11_odds_123]
            have e2 : sS A p (p + 6 * 625) = sS A p 3750 := by
              rw [Nat.add_comm]; exact sS_up (by decide) (by omega) p (Nat.le_refl _)
            rw [e2, e]
            simp (disch := omega) only [bX11_odds, zZ, if_pos, s_part]
            simp (disch := omega) only [nI_eq] at hQ
            exact hQ _ _ kq_m (fun a n1 n2 => zlb_r n1 n2)
          · intro m hm ih nx r A B l6 hA e
            rw [eX11_odds_123]
            have e6 := sS_6 (A := A) (p := p) (i := p + 6 * m) (by omega) (by omega)
            have ih' := ih nx r A B none hA e
            rw [show p + 6 * (m + 1) = p + 6 * m + 6 by omega, e6] at ih'
            simp (disch := omega) only [bX11_odds, zZ, if_neg, zlb_95, lN_add]
            exact ih'
        have f2 : ∀ t, t ≤ n * (tsn T).val → ∀ nx r A B l7 l8, tok T (n * (tsn T).val - t) A → sN A 3750 ≤ cW → (∀ q, tPh T q (rl (tsn T) (n * (tsn T).val - t) t) A 3750 = tV T q (rl (tsn T) (n * (tsn T).val) 0) (srg S) (snx S) cW) → zq (d + 5) mX11_odds Q 85 [some (.ref 87), some (.int (nI n)), some (.int (nI p)), some (.int (nI w)), some (.long (lN cW)), none, some (.int (nI t)), l7, l8] [] sg (rg b) (zpm I nx r (I 87 1) (I 87 15)) (zlb L A B) := by
          refine z_down _ ?_ ?_
          · intro nx r A B l7 l8 i1 i2 i3
            rw [eX11_odds_85]
            have e0 : zpm I nx r (I 87 1) (I 87 15) 89 = I 89 := zpm_r (by decide) (by decide)
            simp (disch := omega) only [bX11_odds, zZ, e0, h1, if_pos, lN_0]
            have := f3 0 (Nat.zero_le _) nx r A B none (fun s hs => Nat.le_trans (sN_le 3750 hs) i2) (by
              have := i3 p
              rw [Nat.sub_self] at this
              exact this)
            rw [show p + 6 * 0 = p by omega, sS_0 (by omega)] at this
            exact this
          · intro t ht ih nx r A B l7 l8 i1 i2 i3
            have hns : 0 < (tsn T).val := Nat.pos_of_ne_zero (fun q => by rw [q, Nat.mul_zero] at ht; omega)
            have hmod := Nat.mod_lt t hns
            rw [eX11_odds_85]
            have e0 : zpm I nx r (I 87 1) (I 87 15) 89 = I 89 := zpm_r (by decide) (by decide)
            have e1 : n * (tsn T).val - t = (n * (tsn T).val - (t + 1)) + 1 := by omega
            rw [e1] at i1 i3
            have hne : ¬ nI (tsn T) = 0 := nI_ne0 hns (by omega)
            simp (disch := omega) only [bX11_odds, zZ, e0, h1, if_neg, hne, pk_rm, pk_div]
            refine s_spreadsAll (ks := rl (tsn T) (n * (tsn T).val - (t + 1)) (t + 1)) hT0 hw (fun j hj => by have := rl_lt hns _ _ _ hj; omega) hmod (by rw [rl_len]; exact i1) (by omega) (fun nx' r' B' j1 j2 j3 => ?_)
            simp only [zZ, bX11_odds]
            rw [rl_len] at j1
            exact ih _ _ _ _ _ _ j1 (by omega) (fun q => (j3 q).trans (i3 q))
        have f1 : ∀ i, i ≤ 3750 → ∀ A B, (∀ s, s < i → A s = 0) → zq (d + 5) mX11_odds Q 38 [some (.ref 87), some (.int (nI n)), some (.int (nI p)), some (.int (nI w)), some (.long (lN cW)), none, some (.int (nI i)), none, none] [] sg (rg b) I (zlb L A B) := by
          refine z_down 3750 ?_ ?_
          · intro A B hA
            rw [eX11_odds_38]
            have h5' := h5n
            have hr6 : srg S < 6 := by omega
            have he := enc_lt hr6 h5n
            simp (disch := omega) only [bX11_odds, zZ, if_pos, g0, s_starts1 g2, s_state hr6 h5n, zlb_u5]
            have hA0 : tok T (n * (tsn T).val) A := fun s hs => by rw [hA s hs]; exact ⟨Nat.dvd_zero _, fun q => absurd rfl q⟩
            have hx : 60 ^ (n * (tsn T).val) ∣ cW := by rw [cW_60]; exact Nat.pow_dvd_pow 60 hN
            have hz : ∀ q, tPh T q (rl (tsn T) (n * (tsn T).val) 0) A 3750 = 0 := fun q => by
              show sN _ 3750 = 0
              rw [sN_cg (g := fun _ => 0) 3750 (fun s hs => by simp only [hA s hs]; exact tV_0 _ _ _), sN_0]
            have hs0 : sN A 3750 = 0 := by rw [sN_cg 3750 hA, sN_0]
            have hA1 : A (enc (srg S) (snx S)) + cW = cW := by rw [hA _ he, Nat.zero_add]
            have hks : ∀ k, k ∈ rl (tsn T) (n * (tsn T).val) 0 → k < 4 := fun k hk => by
              by_cases c : 0 < (tsn T).val
              · have := rl_lt c _ _ _ hk; omega
              · have c0 : (tsn T).val = 0 := by omega
                rw [c0, Nat.mul_zero] at hk
                exact absurd hk (by simp [rl])
            have ht := fun q => tok_add (p := q) (ks := rl (tsn T) (n * (tsn T).val) 0) (by rw [rl_len]; exact hA0) hks hr hnk h5n (by rw [rl_len]; exact hx)
            rw [hA1] at ht
            refine f2 0 (Nat.zero_le _) _ _ _ _ _ _ ?_ ?_ (fun q => ?_)
            · have := (ht 0).1; rw [rl_len] at this; exact this
            · rw [(ht 0).2.1, hs0]; omega
            · show tPh T q (rl (tsn T) (n * (tsn T).val) 0) _ 3750 = _
              rw [(ht q).2.2, hz q, Nat.zero_add]
          · intro i hi ih A B hA
            rw [eX11_odds_38]
            simp (disch := omega) only [bX11_odds, zZ, if_neg, lN_0, zlb_u5]
            refine ih _ _ (fun s hs => ?_)
            by_cases c : s = i
            · rw [c, pup_s]
            · rw [pup_n c]; exact hA s (by omega)
        simp (disch := omega) only [nX11_odds, bX11_odds, zZ, s_in, s_isPlace h0, if_pos, if_neg]
        rw [zlb_of (L := L)]
        exact f1 0 (Nat.zero_le _) _ _ (fun s hs => absurd hs (Nat.not_lt_zero _))
      · rw [if_neg (fun q => c3 q.2.2)] at hQ
        obtain ⟨n, hn, rfl⟩ := v_of (n := 3) (v := n) (by omega) (by omega)
        obtain ⟨p, hp, rfl⟩ := v_of (by omega) c2
        simp (disch := omega) only [nX11_odds, bX11_odds, zZ, s_in, s_isPlace h0, zV3, if_pos, if_neg]
        exact hQ I L kq_i (fun _ _ _ => rfl)
    · rw [if_neg (fun q => c2 q.2.1)] at hQ
      obtain ⟨n, hn, rfl⟩ := v_of (n := 3) (v := n) (by omega) (by omega)
      simp (disch := omega) only [nX11_odds, bX11_odds, zZ, s_in, s_isPlace h0, zV3, if_pos, if_neg]
      exact hQ I L kq_i (fun _ _ _ => rfl)
  · rw [if_neg (fun q => c1 q.1)] at hQ
    simp (disch := omega) only [nX11_odds, bX11_odds, zZ, s_in, s_isPlace h0, zV3, if_pos, if_neg]
    exact hQ I L kq_i (fun _ _ _ => rfl)
end S

/-! THE CLASS: a week of all ways together -/
def mov (T : zT) (n : Nat → Nat) (k q : Nat) : Bool := (tfi T k q (n k)).1 && !decide (tnw T q = 0)
def ys1 (T : zT) (n : Nat → Nat) (k : Nat) (Y : Nat → Nat) (i : Nat) : Nat → Nat := fun q => if q < i then (if mov T n k q = true then 0 else Y q) else Y q
def yf1 (T : zT) (n : Nat → Nat) (k : Nat) (Y F : Nat → Nat) (i : Nat) : Nat → Nat := fun q => if q < i then (if mov T n k q = true then Y q else 0) else F q
def yph (T : zT) (F Y : Nat → Nat) : Nat → Nat → Nat
  | 0 => Y
  | i + 1 => if F i = 0 then yph T F Y i else yad (tnw T i) (F i / cnt (tnw T i) 8) (yph T F Y i) 6
theorem yph_s (T : zT) (F Y : Nat → Nat) (i : Nat) : yph T F Y (i + 1) = if F i = 0 then yph T F Y i else yad (tnw T i) (F i / cnt (tnw T i) 8) (yph T F Y i) 6 := rfl
theorem ys1_s {T : zT} {n Y : Nat → Nat} {k i : Nat} : ys1 T n k Y (i + 1) = pup (ys1 T n k Y i) i (if mov T n k i = true then 0 else Y i) := by
  funext q; unfold ys1 pup
  by_cases c : q = i
  · rw [if_pos (by omega), if_pos c, c]
  · rw [if_neg c]
    show _ = if q < i then (if mov T n k q = true then 0 else Y q) else Y q
    by_cases c2 : q < i
    · rw [if_pos c2, if_pos (by omega)]
    · rw [if_neg c2, if_neg (by omega)]
theorem yf1_s {T : zT} {n Y F : Nat → Nat} {k i : Nat} : yf1 T n k Y F (i + 1) = pup (yf1 T n k Y F i) i (if mov T n k i = true then Y i else 0) := by
  funext q; unfold yf1 pup
  by_cases c : q = i
  · rw [if_pos (by omega), if_pos c, c]
  · rw [if_neg c]
    show _ = if q < i then (if mov T n k q = true then Y q else 0) else F q
    by_cases c2 : q < i
    · rw [if_pos c2, if_pos (by omega)]
    · rw [if_neg c2, if_neg (by omega)]
section
variable {T : zT} {n Y F : Nat → Nat} {k : Nat} {ks : List Nat}
theorem yph_d (hF : ∀ i, i < (tpn T).val → F i ≠ 0 → tnw T i ≠ 0 ∧ 60 ^ (ks.length + 1) ∣ F i) (hY : ∀ q, 60 ^ ks.length ∣ Y q) : ∀ i, i ≤ (tpn T).val → ∀ q, 60 ^ ks.length ∣ yph T F Y i q
  | 0, _, q => hY q
  | i + 1, h, q => by
    have ih := yph_d hF hY i (by omega)
    rw [yph_s]
    by_cases c : F i = 0
    · rw [if_pos c]; exact ih q
    · rw [if_neg c]
      obtain ⟨f1, f2⟩ := hF i (by omega) c
      have hx := dv_div (cnw_60 (show i < (tpn T).val by omega) f1) (cnt_pos _ (tnw_64 T i) f1) f2
      unfold yad; split
      · exact Nat.dvd_add (ih q) hx
      · exact ih q
theorem yph_g {p0 : Nat} (hF : ∀ i, i < (tpn T).val → F i ≠ 0 → tnw T i ≠ 0 ∧ 60 ^ (ks.length + 1) ∣ F i) (hY : ∀ q, 60 ^ ks.length ∣ Y q) : ∀ i, i ≤ (tpn T).val →
    sN (fun q => tV T p0 ks q n (yph T F Y i q)) (tpn T) = sN (fun q => tV T p0 ks q n (Y q)) (tpn T) + sN (fun i => if F i = 0 then 0 else sB (tnw T i) (fun q => tV T p0 ks q n (F i / cnt (tnw T i) 8)) (tpn T)) i
  | 0, _ => rfl
  | i + 1, h => by
    have ih := yph_g (p0 := p0) hF hY i (by omega)
    have hd := yph_d hF hY i (by omega)
    rw [yph_s, sN_s, ← Nat.add_assoc, ← ih]
    by_cases c : F i = 0
    · rw [if_pos c, if_pos c, Nat.add_zero]
    · rw [if_neg c, if_neg c]
      obtain ⟨f1, f2⟩ := hF i (by omega) c
      have hx := dv_div (cnw_60 (show i < (tpn T).val by omega) f1) (cnt_pos _ (tnw_64 T i) f1) f2
      rcases yad_g (G := fun q y => tV T p0 ks q n y) (x := F i / cnt (tnw T i) 8) (Y := yph T F Y i) (tnu_lt T i (tpn T)) (fun q hq => tV_add ks q n _ _ hq (hd q) hx) (tpn T).val (Nat.le_refl _) with e | e
      · exact e
      · omega
theorem yph_t (hF : ∀ i, i < (tpn T).val → F i ≠ 0 → tnw T i ≠ 0) : ∀ i, i ≤ (tpn T).val → sN (yph T F Y i) (tpn T) ≤ sN Y (tpn T) + sN F i
  | 0, _ => Nat.le_refl _
  | i + 1, h => by
    have ih := yph_t hF i (by omega)
    rw [yph_s, sN_s]
    by_cases c : F i = 0
    · rw [if_pos c]; omega
    · rw [if_neg c]
      have f1 := hF i (by omega) c
      rcases yad_g (G := fun _ y => y) (x := F i / cnt (tnw T i) 8) (Y := yph T F Y i) (tnu_lt T i (tpn T)) (fun _ _ => rfl) (tpn T).val (Nat.le_refl _) with e | e
      · have h1 := sB_le (m := tnw T i) (f := fun _ => F i / cnt (tnw T i) 8) (x := F i / cnt (tnw T i) 8) (fun _ => Nat.le_refl _) (tpn T)
        rw [show cnt (tnw T i) (tpn T) = cnt (tnw T i) 8 from (cnt_top (tnu_lt T i (tpn T)) (show (tpn T).val ≤ 8 by omega)).symm] at h1
        have h2 := Nat.mul_div_le (F i) (cnt (tnw T i) 8)
        have e' : sN (yad (tnw T i) (F i / cnt (tnw T i) 8) (yph T F Y i) 6) (tpn T) = sN (yph T F Y i) (tpn T) + sB (tnw T i) (fun _ => F i / cnt (tnw T i) 8) (tpn T) := e
        rw [e']
        omega
      · omega
theorem mov_y {q : Nat} (h : mov T n k q = true) : (tfi T k q (n k)).1 = true ∧ tnw T q ≠ 0 := by
  unfold mov at h
  simpa using h
theorem mov_n {q : Nat} (h : ¬ mov T n k q = true) : ¬ ((tfi T k q (n k)).1 = true ∧ tnw T q ≠ 0) := by
  unfold mov at h
  simpa using h
/-- what a search of all makes of it -/
def ysr (T : zT) (n : Nat → Nat) (k : Nat) (Y F : Nat → Nat) : Nat → Nat := yph T (yf1 T n k Y F (tpn T)) (ys1 T n k Y (tpn T)) (tpn T)
theorem ysr_F (hY : ∀ q, 60 ^ (ks.length + 1) ∣ Y q) : ∀ i, i < (tpn T).val → yf1 T n k Y F (tpn T) i ≠ 0 → tnw T i ≠ 0 ∧ 60 ^ (ks.length + 1) ∣ yf1 T n k Y F (tpn T) i := by
  intro i hi h
  unfold yf1 at h ⊢
  rw [if_pos hi] at h ⊢
  by_cases c : mov T n k i = true
  · rw [if_pos c]; exact ⟨(mov_y c).2, hY i⟩
  · rw [if_neg c] at h; exact absurd rfl h
theorem ysr_1 (hY : ∀ q, 60 ^ (ks.length + 1) ∣ Y q) : ∀ q, 60 ^ ks.length ∣ ys1 T n k Y (tpn T) q := by
  intro q
  have h1 : 60 ^ ks.length ∣ Y q := Nat.dvd_trans ⟨60, Nat.pow_succ ..⟩ (hY q)
  unfold ys1
  split
  · split
    · exact Nat.dvd_zero _
    · exact h1
  · exact h1
theorem ysr_d (hY : ∀ q, 60 ^ (ks.length + 1) ∣ Y q) (q : Nat) : 60 ^ ks.length ∣ ysr T n k Y F q := yph_d (ysr_F hY) (ysr_1 hY) _ (Nat.le_refl _) q
theorem ysr_t : sN (ysr T n k Y F) (tpn T) ≤ sN Y (tpn T) := by
  have hF : ∀ i, i < (tpn T).val → yf1 T n k Y F (tpn T) i ≠ 0 → tnw T i ≠ 0 := by
    intro i hi h
    unfold yf1 at h
    rw [if_pos hi] at h
    by_cases c : mov T n k i = true
    · exact (mov_y c).2
    · rw [if_neg c] at h; exact absurd rfl h
  have h1 := yph_t (Y := ys1 T n k Y (tpn T)) hF (tpn T).val (Nat.le_refl _)
  have h2 : sN (ys1 T n k Y (tpn T)) (tpn T) + sN (yf1 T n k Y F (tpn T)) (tpn T) = sN Y (tpn T) := by
    rw [← sN_add]
    refine sN_cg _ (fun q hq => ?_)
    unfold ys1 yf1
    rw [if_pos hq, if_pos hq]
    split <;> omega
  unfold ysr; omega
theorem ysr_g {p0 : Nat} (hk : k ∉ ks) (hY : ∀ q, 60 ^ (ks.length + 1) ∣ Y q) : sN (fun q => tV T p0 ks q n (ysr T n k Y F q)) (tpn T) = sN (fun q => tV T p0 (k :: ks) q n (Y q)) (tpn T) := by
  have h1 := yph_g (T := T) (n := n) (p0 := p0) (F := yf1 T n k Y F (tpn T)) (Y := ys1 T n k Y (tpn T)) (ysr_F hY) (ysr_1 hY) (tpn T).val (Nat.le_refl _)
  have h2 : sN (fun q => tV T p0 ks q n (ysr T n k Y F q)) (tpn T) = _ := h1
  rw [h2, ← sN_add]
  have hp : ∀ v, ∀ j, j ∈ ks → n j = pup n k v j := fun v j hj => by
    exact (pup_n (fun q : j = k => hk (q ▸ hj))).symm
  refine sN_cg _ (fun q hq => ?_)
  rw [tV_c]
  unfold ys1 yf1
  rw [if_pos hq, if_pos hq]
  by_cases c : mov T n k q = true
  · rw [if_pos c, if_pos c, if_pos (mov_y c), tV_0, Nat.zero_add]
    by_cases c2 : Y q = 0
    · rw [if_pos c2, c2, Nat.zero_div, sB_cg _ (fun q _ => tV_0 ks q _), sB_0]
    · rw [if_neg c2]
      exact sB_cg _ (fun q _ => tV_cg ks q _ _ _ (hp _))
  · rw [if_neg c, if_neg c, if_neg (mov_n c), if_pos rfl, Nat.add_zero]
    exact tV_cg ks q _ _ _ (hp _)
end
section S
variable {d : Nat} {Q : zPo} {σ : zSh} {ρ : zRf} {I : zIm} {L : zLm} {b x : Bool} {T : zT} {S : zU} {A Y F n : Nat → Nat}
theorem k_searchAll {k : Nat} (hT : zTc T b I) (hk : k < (tsn T).val) (hn : n k < (tln T k).val) (hY : ∀ q, q < (tpn T).val → Y q < 2 ^ 62)
    (hQ : Q none sg (rg b) (zic I n) (zlc L A (ysr T n k Y F) (yf1 T n k Y F (tpn T)))) : zW (d + 3) mX0_searchAll [.ref 63, .ref (tc b 0), .int (nI k)] sg (rg b) (zic I n) (zlc L A Y F) Q := by
  have e0 : zic I n (tc b 0) 0 = nI (tpn T) := by rw [zic_t]; exact hT.1.1
  have e2 : ∀ p, p < (tpn T).val → zic I n (tc b 2) p = nI (tnw T p) := fun p hp => by rw [zic_t]; exact (hT.2.1 p hp).1
  have hk4 : k < 4 := by omega
  have h2 : ∀ p, p ≤ (tpn T).val → ∀ l4, zq (d + 2) mX0_searchAll Q 85 [some (.ref 63), some (.ref (tc b 0)), some (.int (nI k)), some (.int (nI p)), l4] [] sg (rg b) (zic I n) (zlc L A (yph T (yf1 T n k Y F (tpn T)) (ys1 T n k Y (tpn T)) p) (yf1 T n k Y F (tpn T))) := by
    refine z_down _ (fun l4 => ?_) (fun p hp ih l4 => ?_)
    · rw [eX0_searchAll_85]
      simp (disch := omega) only [bX0_searchAll, zZ, e0, if_pos]
      exact hQ
    · have h64 := tnw_64 T p
      rw [yph_s] at ih
      rw [eX0_searchAll_85]
      have hf : yf1 T n k Y F (tpn T) p < 2 ^ 62 ∧ (yf1 T n k Y F (tpn T) p ≠ 0 → tnw T p ≠ 0) := by
        unfold yf1; rw [if_pos hp]
        by_cases c : mov T n k p = true
        · rw [if_pos c]; exact ⟨hY p hp, fun _ => (mov_y c).2⟩
        · rw [if_neg c]; exact ⟨by decide, fun q => absurd rfl q⟩
      generalize hG : yf1 T n k Y F (tpn T) = G at *
      obtain ⟨hf1, hf2⟩ := hf
      by_cases c : G p = 0
      · rw [if_pos c] at ih
        simp (disch := omega) only [bX0_searchAll, zZ, e0, if_neg, zlc_6, c, lN_0, lg_0]
        exact ih _
      · have hne : ¬ lN (G p) = lN 0 := by rw [pk_lEQ (by omega) (by omega)]; exact c
        rw [if_neg c] at ih
        simp (disch := omega) only [bX0_searchAll, zZ, e0, e2, if_neg, zlc_6, hne, lN_0, lg_0, k_share h64 hf1, hf2 c]
        exact ih _
  have h1 : ∀ p, p ≤ (tpn T).val → ∀ l4, zq (d + 2) mX0_searchAll Q 2 [some (.ref 63), some (.ref (tc b 0)), some (.int (nI k)), some (.int (nI p)), l4] [] sg (rg b) (zic I n) (zlc L A (ys1 T n k Y p) (yf1 T n k Y F p)) := by
    refine z_down _ (fun l4 => ?_) (fun p hp ih l4 => ?_)
    · rw [eX0_searchAll_2]
      simp (disch := omega) only [bX0_searchAll, zZ, e0, if_pos]
      exact h2 0 (Nat.zero_le _) l4
    · have h64 := tnw_64 T p
      have es : ys1 T n k Y p p = Y p := if_neg (Nat.lt_irrefl p)
      rw [ys1_s, yf1_s] at ih
      rw [eX0_searchAll_2]
      by_cases c : mov T n k p = true
      · rw [if_pos c, if_pos c] at ih
        obtain ⟨c1, c2⟩ := mov_y c
        simp (disch := omega) only [bX0_searchAll, zZ, e0, e2, zic_7, c1, c2, if_true, if_neg, k_finds (zTc_ic hT) hk hn hp, zlc_5, zlc_6, zlc_u5, zlc_u6, es, pup_s, lN_sub, Nat.sub_self]
        exact ih _
      · rw [if_neg c, if_neg c] at ih
        have c3 := mov_n c
        by_cases c2 : tnw T p = 0
        · simp (disch := omega) only [bX0_searchAll, zZ, e0, e2, c2, if_true, if_neg, zlc_5, zlc_6, zlc_u5, zlc_u6, es, pup_s, lN_0, lN_sub, Nat.sub_zero]
          exact ih _
        · have c1 : ¬ (tfi T k p (n k)).1 = true := fun q => c3 ⟨q, c2⟩
          simp (disch := omega) only [bX0_searchAll, zZ, e0, e2, zic_7, c1, c2, if_false, if_neg, k_finds (zTc_ic hT) hk hn hp, zlc_5, zlc_6, zlc_u5, zlc_u6, es, pup_s, lN_0, lN_sub, Nat.sub_zero, Bool.false_eq_true]
          exact ih _
  simp (disch := omega) only [nX0_searchAll, bX0_searchAll, zZ]
  exact h1 0 (Nat.zero_le _) none
end S

/-! THE CLASS: weeks -/
theorem cnt_mono (m : Nat) {j : Nat} : ∀ k, j ≤ k → cnt m j ≤ cnt m k
  | 0, h => by rw [show j = 0 by omega]; exact Nat.le_refl _
  | k + 1, h => by
    by_cases e : j = k + 1
    · rw [e]; exact Nat.le_refl _
    · have := cnt_mono m (j := j) k (by omega); rw [cnt_s]; omega
theorem mbr_at {m p : Nat} (hb : m / 2 ^ p % 2 = 1) : ∀ k, p < k → mbr m (cnt m p) k = some p
  | 0, h => absurd h (Nat.not_lt_zero _)
  | k + 1, h => by
    rw [mbr_s]
    by_cases e : p = k
    · subst e; rw [if_pos ⟨hb, rfl⟩]
    · have h1 := cnt_mono m (j := p + 1) k (by omega)
      rw [cnt_s, hb] at h1
      rw [if_neg (fun q => by omega)]
      exact mbr_at hb k (by omega)
theorem tbe_none {T : zT} {far : Bool} {r : Nat} : ∀ q, tnu T r q = 0 → tbe T far r q = none
  | 0, _ => rfl
  | q + 1, h => by
    have h1 : (if tin T r q = true then tnu T r q + 2 ^ q else tnu T r q) = 0 := h
    have h2 : 0 < 2 ^ q := Nat.pow_pos (by decide)
    by_cases c : tin T r q = true
    · rw [if_pos c] at h1; omega
    · rw [if_neg c] at h1
      show (if tin T r q = true then _ else tbe T far r q) = none
      rw [if_neg c]; exact tbe_none q h1
/-- how often each has had it behind a week -/
def hdu (h : Nat → Int32) (m n : Nat) : Nat → Int32 := fun k => if k < n then h k + nI (m / 2 ^ k % 2) else h k
theorem hdu_0 {h : Nat → Int32} {m : Nat} : hdu h m 0 = h := funext fun k => if_neg (Nat.not_lt_zero k)
theorem i_add0 {x : Int32} : x + nI 0 = x := by rw [nI_0]; exact Int32.add_zero x
theorem hdu_n {h : Nat → Int32} {m n : Nat} (hm : m < 2 ^ n) : hdu h m (n + 1) = hdu h m n := by
  funext k; unfold hdu
  by_cases e : k = n
  · rw [e, if_pos (by omega), if_neg (by omega), bit_lo hm, i_add0]
  · by_cases c : k < n
    · rw [if_pos c, if_pos (by omega)]
    · rw [if_neg c, if_neg (by omega)]
theorem hdu_y {h : Nat → Int32} {m n : Nat} (hm : m < 2 ^ n) : hdu h (m + 2 ^ n) (n + 1) = pup (hdu h m n) n (hdu h m n n + nI 1) := by
  funext k; unfold hdu pup
  by_cases e : k = n
  · rw [if_pos e, if_neg (Nat.lt_irrefl n), e, if_pos (by omega), bit_top hm]
  · rw [if_neg e]
    show _ = if k < n then h k + nI (m / 2 ^ k % 2) else h k
    by_cases c : k < n
    · rw [if_pos c, if_pos (by omega), bit_add c]
    · rw [if_neg c, if_neg (by omega)]
theorem i_dec {v : Nat} (h : 0 < v) : nI v + -1 = nI (v - 1) := by
  rw [← pk_sub (show 1 ≤ v from h), Int32.sub_eq_add_neg]
  rfl
section S
variable {d : Nat} {Q : zPo} {σ : zSh} {ρ : zRf} {I : zIm} {L : zLm} {b x : Bool} {T : zT} {m s r w : Nat} {l : Int32} {n : Nat → Nat} {h : Nat → Int32}
theorem zTc_cs (hT : zTc T x I) : zTc T x (zcs I s r w l n h) := by
  unfold zTc at hT ⊢
  simp only [zcs_t]
  exact hT
theorem k_draw (hr : r < (tpn T).val) : zW (d + 2) mX7_draw [.ref (sc s 0), .int (nI (tnw T r))] sg (rg b) (zcs I s r w l n h) L Q = Q (some (.int (nI (thi T 2 r l).1))) sg (rg b) (zcs I s r w (thi T 2 r l).2 n h) L := by
  have h64 := tnw_64 T r
  have hc8 := cnt_le (tnw T r) 8
  by_cases c : tnw T r = 0
  · have e : cnt (tnw T r) 8 = 0 := by rw [c]; rfl
    rw [show thi T 2 r l = (r, l) from if_pos c]
    simp (disch := omega) only [nX7_draw, bX7_draw, zZ, zcsZ, k_bits h64, e, if_pos]
  · have hp := cnt_pos _ h64 c
    obtain ⟨p, p1, p2, p3⟩ := thi_m (r := r) l c
    have hlt := Nat.mod_lt (ldr (lnx l)) hp
    have hl := ldr_lt (lnx l)
    rw [show thi T 2 r l = (p, lnx l) from (if_neg c).trans ((if_pos rfl).trans (by rw [p1]; rfl))]
    have hz : ∀ q, q ≤ 6 → cnt (tnw T r) q ≤ ldr (lnx l) % cnt (tnw T r) 8 → zq (d + 1) mX7_draw Q 42 [some (.ref (sc s 0)), some (.int (nI (tnw T r))), some (.int (nI (cnt (tnw T r) 8))), some (.int (nI (ldr (lnx l) % cnt (tnw T r) 8 - cnt (tnw T r) q))), some (.int (nI q))] [] sg (rg b) (zcs I s r w (lnx l) n h) L = Q (some (.int (nI p))) sg (rg b) (zcs I s r w (lnx l) n h) L := by
      refine z_down 6 (fun h1 => ?_) (fun q hq ih h1 => ?_)
      · have := cnt_top (m := 8) (show tnw T r < 2 ^ 6 from h64) (by decide)
        omega
      · rw [cnt_s] at ih
        rw [eX7_draw_42]
        rcases Nat.mod_two_eq_zero_or_one (tnw T r / 2 ^ q) with hb | hb
        · rw [hb] at ih
          have ih' := ih h1
          simp (disch := omega) only [bX7_draw, zZ, zcsZ, b_tst, hb, if_neg, if_pos]
          exact ih'
        · rw [hb] at ih
          by_cases e : ldr (lnx l) % cnt (tnw T r) 8 = cnt (tnw T r) q
          · have e2 := mbr_at hb 8 (by omega)
            rw [← e, p1] at e2
            have e3 : p = q := Option.some.inj e2
            simp (disch := omega) only [bX7_draw, zZ, zcsZ, b_tst, hb, if_neg, if_pos, e3]
          · have ih' := ih (by omega)
            rw [show ldr (lnx l) % cnt (tnw T r) 8 - (cnt (tnw T r) q + 1) = ldr (lnx l) % cnt (tnw T r) 8 - cnt (tnw T r) q - 1 by omega] at ih'
            simp (disch := omega) only [bX7_draw, zZ, zcsZ, b_tst, hb, if_neg, if_pos, i_dec]
            exact ih'
    have e := @ldr_eq (lnx l)
    unfold lnx at e hl hlt hz p1 ⊢
    have hne : ¬ nI (cnt (tnw T r) 8) = 0 := nI_ne0 hp (by omega)
    simp (disch := omega) only [nX7_draw, bX7_draw, zZ, zcsZ, k_bits h64, hne, if_neg, e, pk_rem]
    have hz0 := hz 0 (by decide) (Nat.zero_le _)
    rw [show cnt (tnw T r) 0 = 0 from rfl, Nat.sub_zero] at hz0
    exact hz0
theorem k_foundBy {law k : Nat} (hT : zTc T x I) (hk : k < (tsn T).val) (hr : r < (tpn T).val) (hl : law < 3) : zW (d + 3) mX7_foundBy [.ref (sc s 0), .int (nI k), .ref (tc x 0), .int (nI law)] sg (rg b) (zcs I s r w l n h) L Q = Q none sg (rg b) (zcs I s (thi T law r l).1 w (thi T law r l).2 n (pup h k (h k + nI 1))) L := by
  obtain ⟨⟨h0, h1, h2, h3, h4⟩, h5, h6, h7⟩ := hT
  obtain ⟨e2, e3, e4⟩ := h5 r hr
  have e0 : zcs I s r w l n h (tc x 0) 0 = nI (tpn T) := by rw [zcs_t]; exact h0
  have e1 : zcs I s r w l n h (tc x 0) 1 = nI (tsn T) := by rw [zcs_t]; exact h1
  have hc : law = 0 ∨ law = 1 ∨ law = 2 := by omega
  have hg : ∀ far : Bool, far = decide (law = 1) → law ≠ 2 → thi T law r l = ((tbe T far r (tpn T)).getD r, l) := by
    intro far hf h2
    unfold thi
    by_cases c : tnw T r = 0
    · rw [if_pos c, tbe_none _ c]; rfl
    · rw [if_neg c, if_neg h2, ← hf]
      obtain ⟨q, q1, -⟩ := thi_b far c
      rw [q1]; rfl
  have hb : ∀ far : Bool, (tbe T far r (tpn T)).getD r < 6 := by
    intro far
    cases q1 : tbe T far r (tpn T) with
    | none => show r < 6; omega
    | some q => have := (tbe_lt T far r _ _ q1).1; show q < 6; omega
  rcases hc with rfl | rfl | rfl
  · rw [hg false rfl (by decide)]
    have := hb false
    simp (disch := omega) only [nX7_foundBy, bX7_foundBy, zZ, k_isSeeker e1, k_isPlace e0, zcsZ, e3, if_neg, if_pos]
  · rw [hg true rfl (by decide)]
    have := hb true
    simp (disch := omega) only [nX7_foundBy, bX7_foundBy, zZ, k_isSeeker e1, k_isPlace e0, zcsZ, e4, if_neg, if_pos]
  · simp (disch := omega) only [nX7_foundBy, bX7_foundBy, zZ, k_isSeeker e1, k_isPlace e0, zcsZ, e2, k_draw hr, if_neg, if_pos]
theorem k_passWeek {law : Nat} (hT : zTc T x I) (hr : r < (tpn T).val) (hn : tnk T n) (hl : law < 3) : zW (d + 4) mX7_passWeek [.ref (sc s 0), .ref (tc x 0), .int (nI law)] sg (rg b) (zcs I s r w l n h) L Q = Q (some (.int (nI (tpw T law n r l).2.2.2))) sg (rg b) (zcs I s (tpw T law n r l).2.1 (w + 1) (tpw T law n r l).2.2.1 (tpw T law n r l).1 (hdu h (tpw T law n r l).2.2.2 (tsn T))) L := by
  have e1 : ∀ r w l n h, zcs I s r w l n h (tc x 0) 1 = nI (tsn T) := fun _ _ _ _ _ => by rw [zcs_t]; exact hT.1.2.1
  have hl5 : ∀ k, k ≤ (tsn T).val → ∀ l5, zq (d + 3) mX7_passWeek Q 5 [some (.ref (sc s 0)), some (.ref (tc x 0)), some (.int (nI law)), some (.int (nI (tpl T law n r l k).2.2.2)), some (.int (nI k)), l5] [] sg (rg b) (zcs I s (tpl T law n r l k).2.1 w (tpl T law n r l k).2.2.1 (tpl T law n r l k).1 (hdu h (tpl T law n r l k).2.2.2 k)) L = Q (some (.int (nI (tpw T law n r l).2.2.2))) sg (rg b) (zcs I s (tpw T law n r l).2.1 (w + 1) (tpw T law n r l).2.2.1 (tpw T law n r l).1 (hdu h (tpw T law n r l).2.2.2 (tsn T))) L := by
    refine z_down _ (fun l5 => ?_) (fun k hk ih l5 => ?_)
    · rw [eX7_passWeek_5]
      simp (disch := omega) only [bX7_passWeek, zZ, e1, zcs_1, zcs_u1, if_pos]
      rfl
    · rw [eX7_passWeek_5]
      obtain ⟨h1, h2, h3⟩ := tpl_ok (law := law) (lot := l) hr hn k (by omega)
      have hi := h2 k hk
      have h16 : (tpl T law n r l k).2.2.2 < 16 := Nat.lt_of_lt_of_le h3 (show 2 ^ k ≤ 2 ^ 4 from Nat.pow_le_pow_right (by decide) (by omega))
      have hi2 := tfi_lt (r := (tpl T law n r l k).2.1) hi
      rw [tpl_s] at ih
      by_cases c : (tfi T k (tpl T law n r l k).2.1 ((tpl T law n r l k).1 k)).1 = true
      · rw [if_pos c] at ih
        simp only [hdu_y h3] at ih
        simp (disch := omega) only [bX7_passWeek, zZ, e1, zcs_0, zcs_n, zcs_un, if_neg, if_pos, k_finds (zTc_cs hT) hk hi h1, k_stopsAt (zTc_cs hT) hk hi h1, c, if_true, k_foundBy hT hk h1 hl, b_or4]
        exact ih _
      · rw [if_neg c] at ih
        simp only [hdu_n h3] at ih
        simp (disch := omega) only [bX7_passWeek, zZ, e1, zcs_0, zcs_n, zcs_un, if_neg, if_pos, k_finds (zTc_cs hT) hk hi h1, k_stopsAt (zTc_cs hT) hk hi h1, c, if_false, Bool.false_eq_true]
        exact ih _
  simp (disch := omega) only [nX7_passWeek, bX7_passWeek, zZ]
  have := hl5 0 (Nat.zero_le _) none
  rw [hdu_0] at this
  exact this
end S

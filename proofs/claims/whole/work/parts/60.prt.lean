/-! calls that change more -/
theorem tpl_kp {T : zT} {law : Nat} {nx : Nat → Nat} {r : Nat} {lot : Int32} {j : Nat} : ∀ k, k ≤ j → (tpl T law nx r lot k).1 j = nx j
  | 0, _ => rfl
  | k + 1, h => by
    have ih := tpl_kp (T := T) (law := law) (nx := nx) (r := r) (lot := lot) (j := j) k (by omega)
    rw [tpl_s]; split
    · show pup _ k _ j = _; rw [pup_n (by omega)]; exact ih
    · show pup _ k _ j = _; rw [pup_n (by omega)]; exact ih
theorem wrw_r {f : Nat → Int32} {n' : Nat → Nat} {fd : Nat} : ∀ ns, ns ≤ 4 → (∀ j, j < 2 ∨ 10 ≤ j → wrw f n' fd ns j = f j) ∧ (∀ k, k < 4 → wrw f n' fd ns (2 + k) = (if k < ns then nI (n' k) else f (2 + k))) ∧ (∀ k, k < 4 → wrw f n' fd ns (6 + k) = (if k < ns then f (6 + k) + nI (fd / 2 ^ k % 2) else f (6 + k)))
  | 0, _ => ⟨fun _ _ => rfl, fun k _ => (if_neg (Nat.not_lt_zero k)).symm, fun k _ => (if_neg (Nat.not_lt_zero k)).symm⟩
  | ns + 1, h => by
    obtain ⟨h1, h2, h3⟩ := wrw_r (f := f) (n' := n') (fd := fd) ns (by omega)
    refine ⟨fun j hj => ?_, fun k hk => ?_, fun k hk => ?_⟩
    · rw [wrw_s, pup_n (by omega), pup_n (by omega)]; exact h1 j hj
    · rw [wrw_s, pup_n (by omega)]
      by_cases e : k = ns
      · rw [e, pup_s, if_pos (by omega)]
      · rw [pup_n (by omega), h2 k hk]
        by_cases c : k < ns
        · rw [if_pos c, if_pos (by omega)]
        · rw [if_neg c, if_neg (by omega)]
    · rw [wrw_s]
      by_cases e : k = ns
      · rw [e, pup_s, if_pos (by omega), h3 ns (by omega), if_neg (by omega)]
      · rw [pup_n (by omega), pup_n (by omega), h3 k hk]
        by_cases c : k < ns
        · rw [if_pos c, if_pos (by omega)]
        · rw [if_neg c, if_neg (by omega)]
section S
variable {d : Nat} {Q : zPo} {I : zIm} {L : zLm} {b : Bool} {v w z : Int32}
theorem p_week (hR : zRl b I L) (hK : ∀ y b' I' L', zMo d mX11_week [.ref 87] b' I' L' (.int y) → Q (some (.int y)) sg (rg b') I' L') : zW (d + 20) mX10_week [.ref 0] sg (rg b) I L Q := by
  obtain ⟨T, S, bt, n, l, hR⟩ := hR
  have hR0 := hR
  obtain ⟨⟨t1, t2, t3⟩, ⟨s1, s2, s3, s4⟩, ⟨b1, b2⟩, ⟨i1, i2⟩, hL⟩ := hR
  rw [c_week t3 s3 s1]
  by_cases c : (swk S).val = 99 ∨ (tpn T).val = 0
  · rw [if_pos c]
    refine hK _ b I L (fun K hk => ?_)
    refine m_week t2 t1 s2 s1 ?_
    rw [if_pos c]
    exact hk I L ⟨T, S, bt, n, l, hR0⟩
  · rw [if_neg c]
    refine hK _ b _ L (fun K hk => ?_)
    have hp : 0 < (tpn T).val := by omega
    have hwk : (swk S).val + 1 < 100 := by omega
    obtain ⟨o1, o2, o3⟩ := tpw_ok (T := T) (law := (tlw T).val) (lot := l) (s1.1 hp) s1.2.1
    have okeep : ∀ j, (tsn T).val ≤ j → (tpw T (tlw T) (snx S) (srg S) l).1 j = snx S j := fun j hj => tpl_kp _ hj
    generalize hM : zcs I 0 (tpw T (tlw T) (snx S) (srg S) l).2.1 ((swk S).val + 1) (tpw T (tlw T) (snx S) (srg S) l).2.2.1 (tpw T (tlw T) (snx S) (srg S) l).1 (hdu (shd S) (tpw T (tlw T) (snx S) (srg S) l).2.2.2 (tsn T)) = M
    have e89 : M 89 = I 89 := by rw [← hM]; exact zcs_g (by decide)
    have e91 : M 91 = I 91 := by rw [← hM]; exact zcs_g (by decide)
    have e87 : M 87 1 = l := by rw [← hM, zcs_g (by decide)]; exact s4
    refine m_week (T := T) (S := S) (by rw [e89]; exact t2) t1 (by rw [e91]; exact s2) s1 ?_
    rw [if_neg c, e87, e91]
    intro I2 h1 h2 h3
    have hw5 : ∀ k, k < 4 → (tpw T (tlw T) (snx S) (srg S) l).1 k < 5 := fun k hk => by
      by_cases ck : k < (tsn T).val
      · have := o2 k ck; omega
      · rw [okeep k (by omega)]; exact s1.2.2 k hk
    generalize tpw T (tlw T) (snx S) (srg S) l = P at *
    obtain ⟨w1, w2, w3⟩ := wrw_r (f := pup (pup (I 91) 0 (nI P.2.1)) 1 (nI ((swk S).val + 1))) (n' := P.1) (fd := P.2.2.2) (tsn T).val (by omega)
    refine hk I2 L ⟨T, (P.2.1, Fin.ofNat 100 ((swk S).val + 1), P.1, hdu (shd S) P.2.2.2 (tsn T), ssn S, sse S, sss S, ssf S), bt, n, P.2.2.1, zRl_s (zFs_t (by rw [← hM]; exact zFs_zc) (zFs_kp h1)) hR0 ⟨fun _ => o1, o2, hw5⟩ ?_ ?_ h3⟩
    · obtain ⟨g0, g1, g2, g3, g4, g5, g6, g7⟩ := s2
      rw [h2]
      refine ⟨?_, ?_, fun k hk => ?_, fun k hk => ?_, ?_, fun i hi => ?_, fun i hi => ?_, fun i hi => ?_⟩
      · rw [w1 0 (by omega), pup_n (by decide), pup_s]; exact (zrv_p hp).symm
      · rw [w1 1 (by omega), pup_s]; show _ = nI (Fin.ofNat 100 ((swk S).val + 1)).val; rw [fo_v hwk]
      · rw [w2 k hk]
        show _ = nI (P.1 k)
        by_cases ck : k < (tsn T).val
        · rw [if_pos ck]
        · rw [if_neg ck, pup_n (by omega), pup_n (by omega), okeep k (by omega)]; exact g2 k hk
      · rw [w3 k hk]
        show _ = hdu (shd S) P.2.2.2 (tsn T) k
        unfold hdu
        by_cases ck : k < (tsn T).val
        · rw [if_pos ck, if_pos ck, pup_n (by omega), pup_n (by omega), g3 k hk]
        · rw [if_neg ck, if_neg ck, pup_n (by omega), pup_n (by omega)]; exact g3 k hk
      · rw [w1 10 (by omega), pup_n (by decide), pup_n (by decide)]; exact g4
      · rw [w1 _ (by omega), pup_n (by omega), pup_n (by omega)]; exact g5 i hi
      · rw [w1 _ (by omega), pup_n (by omega), pup_n (by omega)]; exact g6 i hi
      · rw [w1 _ (by omega), pup_n (by omega), pup_n (by omega)]; exact g7 i hi
    · obtain ⟨⟨g0, g1, g2, g3⟩, g4, g5⟩ := s3
      refine ⟨⟨?_, ?_, ?_, ?_⟩, fun k hk => ⟨?_, ?_⟩, fun i hi => ?_⟩
      · rw [kp_sc h1, ← hM, zcs_0]; exact (zrv_p hp).symm
      · rw [kp_sc h1, ← hM, zcs_1]; show _ = nI (Fin.ofNat 100 ((swk S).val + 1)).val; rw [fo_v hwk]
      · rw [kp_sc h1, ← hM, zcs_2]
      · rw [kp_sc h1, ← hM, zcs_3]; exact g3
      · rw [kp_sc h1, ← hM, zcs_n hk]; rfl
      · rw [kp_sc h1, ← hM, zcs_h hk]; rfl
      · rw [kp_sc h1, kp_sc h1, kp_sc h1, ← hM, zcs_x (by decide) (by decide), zcs_x (by decide) (by decide), zcs_x (by decide) (by decide)]; exact g5 i hi
theorem p_saw (hR : zRl b I L) (hK : ∀ y b' I' L', zMo d mX11_saw [.ref 87, .int v, .int w, .int z] b' I' L' (.int y) → Q (some (.int y)) sg (rg b') I' L') : zW (d + 20) mX10_saw [.ref 0, .int v, .int w, .int z] sg (rg b) I L Q := by
  obtain ⟨T, S, bt, n, l, hR⟩ := hR
  have hR0 := hR
  obtain ⟨⟨t1, t2, t3⟩, ⟨s1, s2, s3, s4⟩, ⟨b1, b2⟩, ⟨i1, i2⟩, hL⟩ := hR
  rw [c_saw t3 s3]
  by_cases c : (0 ≤ v.toInt ∧ v.toInt < ((swk S).val : Int)) ∧ (0 ≤ w.toInt ∧ w.toInt < ((tsn T).val : Int)) ∧ (0 ≤ z.toInt ∧ z.toInt < 2)
  · rw [if_pos c]
    by_cases c8 : (ssn S).val = 8
    · rw [if_pos c8]
      refine hK _ b I L (fun K hk => ?_)
      rw [m_saw t2 s2, if_pos c, if_pos c8]
      exact hk I L ⟨T, S, bt, n, l, hR0⟩
    · rw [if_neg c8]
      refine hK _ b _ L (fun K hk => ?_)
      obtain ⟨cv, cw, cz⟩ := c
      obtain ⟨j, hj, rfl⟩ := v_of (by omega) cv
      obtain ⟨k, hk2, rfl⟩ := v_of (by omega) cw
      obtain ⟨f, hf, rfl⟩ := v_of (n := 2) (by omega) (by omega)
      generalize hM : zup (zup (zup (zup I (sc 0 3) (ssn S).val (nI j)) (sc 0 4) (ssn S).val (nI k)) (sc 0 5) (ssn S).val (nI f)) (sc 0 0) 3 (nI ((ssn S).val + 1)) = M
      have n8 : ∀ a c, ¬ (49 ≤ a ∧ a ≤ 54) → a ≠ sc 0 c := fun a c ha q => ha (by rw [q]; exact sc0_r c)
      have eM : ∀ a, ¬ (49 ≤ a ∧ a ≤ 54) → M a = I a := fun a ha => by rw [← hM, zup_r (n8 a 0 ha), zup_r (n8 a 5 ha), zup_r (n8 a 4 ha), zup_r (n8 a 3 ha)]
      rw [m_saw (T := T) (S := S) (by rw [eM 89 (by decide)]; exact t2) (by rw [eM 91 (by decide)]; exact s2), if_pos ⟨cv, cw, cz⟩, if_neg c8]
      have f1 : zFs b I M := by rw [← hM]; exact zFs_t zFs_49 (zFs_t zFs_49 (zFs_t zFs_49 zFs_49))
      have hs8 : (ssn S).val + 1 < 9 := by omega
      refine hk _ L ⟨T, (srg S, swk S, snx S, shd S, Fin.ofNat 9 ((ssn S).val + 1), pup (sse S) (ssn S).val (Fin.ofNat 100 j), pup (sss S) (ssn S).val (Fin.ofNat 4 k), pup (ssf S) (ssn S).val (Fin.ofNat 2 f)), bt, n, l, zRl_s (zFs_t f1 (zFs_t zFs_91 (zFs_t zFs_91 (zFs_t zFs_91 zFs_91)))) hR0 s1 ?_ ?_ ?_⟩
      · obtain ⟨g0, g1, g2, g3, g4, g5, g6, g7⟩ := s2
        rw [zup_row, zup_row, zup_row, zup_row, eM 91 (by decide)]
        refine ⟨?_, ?_, fun k hk => ?_, fun k hk => ?_, ?_, fun i hi => ?_, fun i hi => ?_, fun i hi => ?_⟩
        · rw [pup_n (by decide), pup_n (by omega), pup_n (by omega), pup_n (by omega)]; exact g0
        · rw [pup_n (by decide), pup_n (by omega), pup_n (by omega), pup_n (by omega)]; exact g1
        · rw [pup_n (by omega), pup_n (by omega), pup_n (by omega), pup_n (by omega)]; exact g2 k hk
        · rw [pup_n (by omega), pup_n (by omega), pup_n (by omega), pup_n (by omega)]; exact g3 k hk
        · rw [pup_s]; show _ = nI (Fin.ofNat 9 ((ssn S).val + 1)).val; rw [fo_v hs8]
        · have hi' : i < (ssn S).val + 1 := by
            have : i < (Fin.ofNat 9 ((ssn S).val + 1)).val := hi
            rw [fo_v hs8] at this; exact this
          show _ = nI (pup (sse S) (ssn S).val (Fin.ofNat 100 j) i).val
          rw [pup_n (by omega), pup_n (by omega), pup_n (by omega)]
          by_cases ei : i = (ssn S).val
          · rw [ei, pup_s, pup_s, fo_v (by omega)]
          · rw [pup_n (by omega), pup_n ei]; exact g5 i (by omega)
        · have hi' : i < (ssn S).val + 1 := by
            have : i < (Fin.ofNat 9 ((ssn S).val + 1)).val := hi
            rw [fo_v hs8] at this; exact this
          show _ = nI (pup (sss S) (ssn S).val (Fin.ofNat 4 k) i).val
          rw [pup_n (by omega), pup_n (by omega)]
          by_cases ei : i = (ssn S).val
          · rw [ei, pup_s, pup_s, fo_v (by omega)]
          · rw [pup_n (by omega), pup_n (by omega), pup_n ei]; exact g6 i (by omega)
        · have hi' : i < (ssn S).val + 1 := by
            have : i < (Fin.ofNat 9 ((ssn S).val + 1)).val := hi
            rw [fo_v hs8] at this; exact this
          show _ = nI (pup (ssf S) (ssn S).val (Fin.ofNat 2 f) i).val
          rw [pup_n (by omega)]
          by_cases ei : i = (ssn S).val
          · rw [ei, pup_s, pup_s, fo_v (by omega)]
          · rw [pup_n (by omega), pup_n (by omega), pup_n (by omega), pup_n ei]; exact g7 i (by omega)
      · have e : ∀ c j1 j2 j3 j4 v1 v2 v3 v4, zup (zup (zup (zup M 91 j1 v1) 91 j2 v2) 91 j3 v3) 91 j4 v4 (sc 0 c) = M (sc 0 c) := fun c j1 j2 j3 j4 v1 v2 v3 v4 => by
          have := sc0_r c
          rw [zup_r (by omega), zup_r (by omega), zup_r (by omega), zup_r (by omega)]
        have nf : ∀ {c c'}, c ≤ 5 → c' ≤ 5 → c ≠ c' → sc 0 c ≠ sc 0 c' := fun {c c'} h1 h2 h3 q => by rw [sc_eqc h1 h2] at q; exact h3 q
        obtain ⟨⟨g0, g1, g2, g3⟩, g4, g5⟩ := s3
        refine ⟨⟨?_, ?_, ?_, ?_⟩, fun k hk => ⟨?_, ?_⟩, fun i hi => ?_⟩
        · rw [e, ← hM, zup_k (by decide), zup_r (nf (by decide) (by decide) (by decide)), zup_r (nf (by decide) (by decide) (by decide)), zup_r (nf (by decide) (by decide) (by decide))]; exact g0
        · rw [e, ← hM, zup_k (by decide), zup_r (nf (by decide) (by decide) (by decide)), zup_r (nf (by decide) (by decide) (by decide)), zup_r (nf (by decide) (by decide) (by decide))]; exact g1
        · rw [e, ← hM, zup_k (by decide), zup_r (nf (by decide) (by decide) (by decide)), zup_r (nf (by decide) (by decide) (by decide)), zup_r (nf (by decide) (by decide) (by decide))]; exact g2
        · rw [e, ← hM, zup_s]; show _ = nI (Fin.ofNat 9 ((ssn S).val + 1)).val; rw [fo_v hs8]
        · rw [e, ← hM, zup_r (nf (by decide) (by decide) (by decide)), zup_r (nf (by decide) (by decide) (by decide)), zup_r (nf (by decide) (by decide) (by decide)), zup_r (nf (by decide) (by decide) (by decide))]; exact (g4 k hk).1
        · rw [e, ← hM, zup_r (nf (by decide) (by decide) (by decide)), zup_r (nf (by decide) (by decide) (by decide)), zup_r (nf (by decide) (by decide) (by decide)), zup_r (nf (by decide) (by decide) (by decide))]; exact (g4 k hk).2
        · have hi' : i < (ssn S).val + 1 := by
            have : i < (Fin.ofNat 9 ((ssn S).val + 1)).val := hi
            rw [fo_v hs8] at this; exact this
          show _ = nI (pup (sse S) (ssn S).val (Fin.ofNat 100 j) i).val ∧ _ = nI (pup (sss S) (ssn S).val (Fin.ofNat 4 k) i).val ∧ _ = nI (pup (ssf S) (ssn S).val (Fin.ofNat 2 f) i).val
          rw [e, e, e, ← hM, zup_r (nf (c := 3) (c' := 0) (by decide) (by decide) (by decide)), zup_r (nf (c := 4) (c' := 0) (by decide) (by decide) (by decide)), zup_r (nf (c := 5) (c' := 0) (by decide) (by decide) (by decide)), zup_r (nf (c := 3) (c' := 5) (by decide) (by decide) (by decide)), zup_r (nf (c := 3) (c' := 4) (by decide) (by decide) (by decide)), zup_r (nf (c := 4) (c' := 5) (by decide) (by decide) (by decide))]
          by_cases ei : i = (ssn S).val
          · rw [ei, zup_s, zup_s, zup_s, pup_s, pup_s, pup_s, fo_v (by omega), fo_v (by omega), fo_v (by omega)]; exact ⟨rfl, rfl, rfl⟩
          · rw [pup_n ei, pup_n ei, pup_n ei]
            obtain ⟨q3, q4, q5⟩ := g5 i (by omega)
            refine ⟨?_, ?_, ?_⟩
            · rw [zup_k ei]; exact q3
            · rw [zup_k ei, zup_r (nf (by decide) (by decide) (by decide))]; exact q4
            · rw [zup_k ei, zup_r (nf (by decide) (by decide) (by decide)), zup_r (nf (by decide) (by decide) (by decide))]; exact q5
      · rw [zup_r (by decide), zup_r (by decide), zup_r (by decide), zup_r (by decide), eM 87 (by decide)]; exact s4
  · rw [if_neg c]
    refine hK _ b I L (fun K hk => ?_)
    rw [m_saw t2 s2, if_neg c]
    exact hk I L ⟨T, S, bt, n, l, hR0⟩
theorem zBa_f {m : Nat} {I' : zIm} (hm : m < 2) (h : zBa (2 + m) 0 I I') : ∀ a, ¬ (69 ≤ a ∧ a ≤ 80) → I' a = I a := fun a ha => h.1 a (fun c _ q => ha (by rw [q]; exact sc2_r m c hm))
theorem sc_apart {m m' c c' : Nat} (h : m < 2) (h' : m' < 2) (hn : m ≠ m') : sc (2 + m) c ≠ sc (2 + m') c' := fun q => by rw [sc_ne (by omega) (by omega) (by omega)] at q; exact q
theorem p_keep (hR : zRl b I L) (hK : ∀ y b' I' L', zMo d mX11_keep [.ref 87, .int v] b' I' L' (.int y) → Q (some (.int y)) sg (rg b') I' L') : zW (d + 20) mX10_keep [.ref 0, .int v] sg (rg b) I L Q := by
  obtain ⟨T, S, bt, n, l, hR⟩ := hR
  have hR0 := hR
  obtain ⟨⟨t1, t2, t3⟩, ⟨s1, s2, s3, s4⟩, ⟨b1, b2⟩, ⟨i1, i2⟩, hL⟩ := hR
  refine c_keep s3 ?_
  by_cases c : 0 ≤ v.toInt ∧ v.toInt < 2
  · rw [if_pos c]
    obtain ⟨m, hm, rfl⟩ := v_of (n := 2) (by omega) (by omega)
    simp (disch := omega) only [Int.toNat_natCast, nI_toInt]
    intro I1 h1 h2
    refine hK _ b _ L (fun K hk => ?_)
    have f1 := zBa_f hm h1
    generalize hM : zup I1 62 m (nI 1) = M
    have eM : ∀ a, a ≠ 62 → ¬ (69 ≤ a ∧ a ≤ 80) → M a = I a := fun a h62 ha => by rw [← hM, zup_r h62]; exact f1 a ha
    have eM2 : ∀ a, a ≠ 62 → M a = I1 a := fun a h62 => by rw [← hM, zup_r h62]
    rw [m_keep (T := T) (S := S) (by rw [eM 91 (by decide) (by decide)]; exact s2), if_pos c]
    simp (disch := omega) only [Int.toNat_natCast, nI_toInt]
    generalize hN : zup (zup (fil M 92 (36 * m) (M 91) 36) 97 m (M 87 1)) 93 m (nI 1) = N
    have eN : ∀ a, a ≠ 92 → a ≠ 97 → a ≠ 93 → N a = M a := fun a h1 h2 h3 => by rw [← hN, zup_r h3, zup_r h2, fil_r h1]
    have hb := tc_22 b
    refine hk N L ⟨T, S, bt, n, l, ⟨t1, ?_, ?_⟩, ⟨s1, ?_, ?_, ?_⟩, ⟨⟨b1.1, ?_, ?_⟩, ⟨b2.1, ?_, ?_⟩⟩, ?_, hL⟩
    · rw [eN 89 (by decide) (by decide) (by decide), eM 89 (by decide) (by decide)]; exact t2
    · refine zTc_e t3 (fun c => ?_)
      have := tc_r b c
      rw [eN _ (by omega) (by omega) (by omega), eM _ (by omega) (by omega)]
    · rw [eN 91 (by decide) (by decide) (by decide), eM 91 (by decide) (by decide)]; exact s2
    · refine zSk_e s3 (fun c => ?_)
      have := sc0_r c
      rw [eN _ (by omega) (by omega) (by omega), eM _ (by omega) (by omega)]
    · rw [eN 87 (by decide) (by decide) (by decide), eM 87 (by decide) (by decide)]; exact s4
    · rw [eN 87 (by decide) (by decide) (by decide), eM 87 (by decide) (by decide)]; exact b1.2.1
    · rw [eN 88 (by decide) (by decide) (by decide), eM 88 (by decide) (by decide)]; exact b1.2.2
    · rw [eN 1 (by decide) (by decide) (by decide), eM 1 (by decide) (by decide)]; exact b2.2.1
    · rw [eN 2 (by decide) (by decide) (by decide), eM 2 (by decide) (by decide)]; exact b2.2.2
    · have hnew : zIg T N m := by
        refine Or.inr ⟨?_, ?_, S, l, s1, ?_, ?_, ?_⟩
        · rw [← hN, zup_s]
        · rw [eN 62 (by decide) (by decide) (by decide), ← hM, zup_s]
        · have e92 : N 92 = fil M 92 (36 * m) (M 91) 36 92 := by rw [← hN, zup_r (by decide), zup_r (by decide)]
          have e91 : M 91 = I 91 := eM 91 (by decide) (by decide)
          obtain ⟨g0, g1, g2, g3, g4, g5, g6, g7⟩ := s2
          have ff : ∀ j, j < 36 → N 92 (36 * m + j) = I 91 j := fun j hj => by rw [e92, fil_i hj, e91]
          exact ⟨(ff 0 (by decide)).trans g0, (ff 1 (by decide)).trans g1, fun k hk => (ff _ (by omega)).trans (g2 k hk), fun k hk => (ff _ (by omega)).trans (g3 k hk), (ff 10 (by decide)).trans g4, fun i hi => (ff _ (by omega)).trans (g5 i hi), fun i hi => (ff _ (by omega)).trans (g6 i hi), fun i hi => (ff _ (by omega)).trans (g7 i hi)⟩
        · rw [← hN, zup_r (by decide), zup_s, eM 87 (by decide) (by decide)]; exact s4
        · refine zSk_e h2 (fun c => ?_)
          have := sc2_r m c hm
          rw [eN _ (by omega) (by omega) (by omega), eM2 _ (by omega)]
      have hold : ∀ m', m' < 2 → m' ≠ m → zIg T I m' → zIg T N m' := by
        intro m' hm' hne h
        have k93 : N 93 m' = I 93 m' := by rw [← hN, zup_k hne, zup_r (by decide), fil_r (by decide), eM 93 (by decide) (by decide)]
        have k62 : N 62 m' = I 62 m' := by rw [eN 62 (by decide) (by decide) (by decide), ← hM, zup_k hne, f1 62 (by decide)]
        have k97 : N 97 m' = I 97 m' := by rw [← hN, zup_r (by decide), zup_k hne, fil_r (by decide), eM 97 (by decide) (by decide)]
        have k92 : ∀ j, j < 36 → N 92 (36 * m' + j) = I 92 (36 * m' + j) := fun j hj => by rw [← hN, zup_r (by decide), zup_r (by decide), fil_o (by omega), eM 92 (by decide) (by decide)]
        unfold zIg at h ⊢
        rw [k93, k62, k97]
        rcases h with h | ⟨q1, q2, S', l', q3, q4, q5, q6⟩
        · exact Or.inl h
        · obtain ⟨g0, g1, g2, g3, g4, g5, g6, g7⟩ := q4
          refine Or.inr ⟨q1, q2, S', l', q3, ⟨(k92 0 (by decide)).trans g0, (k92 1 (by decide)).trans g1, fun k hk => (k92 _ (by omega)).trans (g2 k hk), fun k hk => (k92 _ (by omega)).trans (g3 k hk), (k92 10 (by decide)).trans g4, fun i hi => (k92 _ (by omega)).trans (g5 i hi), fun i hi => (k92 _ (by omega)).trans (g6 i hi), fun i hi => (k92 _ (by omega)).trans (g7 i hi)⟩, q5, zSk_e q6 (fun c => ?_)⟩
          have := sc2_r m' c hm'
          rw [eN _ (by omega) (by omega) (by omega), eM2 _ (by omega)]
          exact h1.1 _ (fun c' _ => sc_apart hm' hm hne)
      have hm2 : m = 0 ∨ m = 1 := by omega
      rcases hm2 with rfl | rfl
      · exact ⟨hnew, hold 1 (by decide) (by decide) i2⟩
      · exact ⟨hold 0 (by decide) (by decide) i1, hnew⟩
  · rw [if_neg c]
    refine hK _ b I L (fun K hk => ?_)
    rw [m_keep s2, if_neg c]
    exact hk I L ⟨T, S, bt, n, l, hR0⟩
theorem p_back (hR : zRl b I L) (hK : ∀ y b' I' L', zMo d mX11_back [.ref 87, .int v] b' I' L' (.int y) → Q (some (.int y)) sg (rg b') I' L') : zW (d + 20) mX10_back [.ref 0, .int v] sg (rg b) I L Q := by
  obtain ⟨T, S, bt, n, l, hR⟩ := hR
  have hR0 := hR
  obtain ⟨⟨t1, t2, t3⟩, ⟨s1, s2, s3, s4⟩, ⟨b1, b2⟩, ⟨i1, i2⟩, hL⟩ := hR
  refine c_back ?_
  by_cases c : 0 ≤ v.toInt ∧ v.toInt < 2
  · rw [if_pos c]
    obtain ⟨m, hm, rfl⟩ := v_of (n := 2) (by omega) (by omega)
    simp (disch := omega) only [Int.toNat_natCast, nI_toInt]
    have hg : zIg T I m := by
      have hm2 : m = 0 ∨ m = 1 := by omega
      rcases hm2 with rfl | rfl
      · exact i1
      · exact i2
    rcases hg with ⟨g93, g62⟩ | ⟨g93, g62, S', l', q3, q4, q5, q6⟩
    · rw [if_pos g62]
      refine hK _ b I L (fun K hk => ?_)
      rw [m_back, if_pos c]
      simp (disch := omega) only [Int.toNat_natCast, nI_toInt]
      rw [if_pos g93]
      exact hk I L ⟨T, S, bt, n, l, hR0⟩
    · have h10 : ¬ nI 1 = nI 0 := by decide +kernel
      rw [if_neg (by rw [g62]; exact h10)]
      refine ⟨T, S', l', q6, fun I1 h1 h2 => ?_⟩
      have f1 : ∀ a, ¬ (49 ≤ a ∧ a ≤ 54) → I1 a = I a := fun a ha => h1.1 a (fun c _ q => ha (by rw [q]; exact sc0_r c))
      refine hK _ b I1 L (fun K hk => ?_)
      rw [m_back, if_pos c]
      simp (disch := omega) only [Int.toNat_natCast, nI_toInt]
      rw [f1 93 (by decide), f1 92 (by decide), f1 97 (by decide), if_neg (by rw [g93]; exact h10), show I 92 (36 * m + 1) = nI (swk S') from q4.2.1]
      have hb := tc_22 b
      have f2 : zFs b I I1 := ⟨fun a ha => f1 a (by omega), by rw [f1 1 (by decide)], by rw [f1 87 (by decide)]⟩
      have f3 : zFs b I1 (zup (fil I1 91 0 (fun k => I 92 (36 * m + k)) 36) 87 1 (I 97 m)) := ⟨fun a ha => by rw [zup_r (by omega), fil_r (by omega)], by rw [zup_r (by decide), fil_r (by decide)], by rw [zup_k (by decide), fil_r (by decide)]⟩
      refine hk _ L ⟨T, S', bt, n, l', zRl_s (zFs_t f2 f3) hR0 q3 ?_ ?_ ?_⟩
      · obtain ⟨g0, g1, g2, g3, g4, g5, g6, g7⟩ := q4
        rw [zup_r (by decide)]
        have ff : ∀ j, j < 36 → fil I1 91 0 (fun k => I 92 (36 * m + k)) 36 91 j = I 92 (36 * m + j) := fun j hj => fil_i0 hj
        exact ⟨(ff 0 (by decide)).trans g0, (ff 1 (by decide)).trans g1, fun k hk => (ff _ (by omega)).trans (g2 k hk), fun k hk => (ff _ (by omega)).trans (g3 k hk), (ff 10 (by decide)).trans g4, fun i hi => (ff _ (by omega)).trans (g5 i hi), fun i hi => (ff _ (by omega)).trans (g6 i hi), fun i hi => (ff _ (by omega)).trans (g7 i hi)⟩
      · refine zSk_e h2 (fun c => ?_)
        have := sc0_r c
        rw [zup_r (by omega), fil_r (by omega)]
      · rw [zup_s]; exact q5
  · rw [if_neg c]
    refine hK _ b I L (fun K hk => ?_)
    rw [m_back, if_neg c]
    exact hk I L ⟨T, S, bt, n, l, hR0⟩
end S

/-! calls that change something: both halves stay together -/
section
variable {b : Bool} {I I' : zIm} {L L' : zLm} {T : zT} {S : zU} {bt : Nat → Fin 256} {n m : Nat} {l : Int32}
theorem zFs_f (h : zFm b I I') : zFs b I I' := ⟨fun a ha => h.1 a (by omega), h.2.1, h.2.2.2⟩
theorem zFs_i : zFs b I I := ⟨fun _ _ => rfl, rfl, rfl⟩
theorem zFs_49 {j c : Nat} {v : Int32} : zFs b I (zup I (sc 0 c) j v) := by
  have h := sc0_r c
  have := tc_22 b
  exact ⟨fun a ha => zup_r (by omega), by rw [zup_r (by omega)], by rw [zup_r (by omega)]⟩
theorem zFs_91 {j : Nat} {v : Int32} : zFs b I (zup I 91 j v) := by
  have := tc_22 b
  exact ⟨fun a ha => zup_r (by omega), by rw [zup_r (by decide)], by rw [zup_r (by decide)]⟩
theorem zFs_87 {v : Int32} : zFs b I (zup I 87 1 v) := by
  have := tc_22 b
  exact ⟨fun a ha => zup_r (by omega), by rw [zup_r (by decide)], zup_k (by decide)⟩
theorem zFs_zc {r w : Nat} {l : Int32} {n : Nat → Nat} {h : Nat → Int32} : zFs b I (zcs I 0 r w l n h) := by
  have := tc_22 b
  have h0 := sc0_r 0; have h1 := sc0_r 1; have h2 := sc0_r 2
  exact ⟨fun a ha => zcs_r (by omega) (by omega) (by omega), by rw [zcs_r (by omega) (by omega) (by omega)], by rw [zcs_r (by omega) (by omega) (by omega)]⟩
theorem zFs_kp (h : kp I I') : zFs b I I' := by
  have := tc_22 b
  exact ⟨fun a ha => h.1 a (by omega) (by omega) (by omega) (by omega) (by omega) (by omega), by rw [h.1 1 (by decide) (by decide) (by decide) (by decide) (by decide) (by decide)], h.2⟩
theorem kp_sc (h : kp I I') (c : Nat) : I' (sc 0 c) = I (sc 0 c) := by
  have := sc0_r c
  exact h.1 _ (by omega) (by omega) (by omega) (by omega) (by omega) (by omega)
end
section S
variable {d : Nat} {Q : zPo} {I : zIm} {L : zLm} {b : Bool} {v w z : Int32}
theorem p_odds (hR : zRl b I L) (hK : ∀ y b' I' L', zMo d mX11_odds [.ref 87, .int v, .int w, .int z] b' I' L' (.long y) → Q (some (.long y)) sg (rg b') I' L') : zW (d + 20) mX10_odds [.ref 0, .int v, .int w, .int z] sg (rg b) I L Q := by
  obtain ⟨T, S, bt, n, l, hR⟩ := hR
  have hR0 := hR
  obtain ⟨⟨t1, t2, t3⟩, ⟨s1, s2, s3, s4⟩, ⟨b1, b2⟩, ⟨i1, i2⟩, hL⟩ := hR
  refine c_odds (d := d + 9) t3 s3 s1 (fun I1 L1 h1 => ?_)
  have hL1 : L1 87 0 = zTr L1 := by
    unfold zTr
    rw [h1.2 87 (by decide) (by decide) (by decide), h1.2 81 (by decide) (by decide) (by decide), h1.2 82 (by decide) (by decide) (by decide), h1.2 83 (by decide) (by decide) (by decide), h1.2 84 (by decide) (by decide) (by decide), h1.2 85 (by decide) (by decide) (by decide), h1.2 86 (by decide) (by decide) (by decide)]
    exact hL
  refine hK _ b I1 L1 (fun K hk => ?_)
  have hR1 := zRl_f (zFm_ko h1) hL1 hR0
  obtain ⟨⟨u1, u2, u3⟩, ⟨v1, v2, v3, v4⟩, -⟩ := hR1
  refine m_odds u2 t1 v2 s1 (fun I2 L2 h2 h3 => ?_)
  have hL2 : L2 87 0 = zTr L2 := by
    unfold zTr
    rw [h3 87 (by decide) (by decide), h3 81 (by decide) (by decide), h3 82 (by decide) (by decide), h3 83 (by decide) (by decide), h3 84 (by decide) (by decide), h3 85 (by decide) (by decide), h3 86 (by decide) (by decide)]
    exact hL1
  exact hk I2 L2 ⟨T, S, bt, n, l, zRl_f (zFm_t (zFm_ko h1) (zFm_kq h2)) hL2 hR0⟩
theorem p_puts (hR : zRl b I L) (hK : ∀ y b' I' L', zMo d mX11_puts [.ref 87, .int v] b' I' L' (.int y) → Q (some (.int y)) sg (rg b') I' L') : zW (d + 20) mX10_puts [.ref 0, .int v] sg (rg b) I L Q := by
  obtain ⟨T, S, bt, n, l, hR⟩ := hR
  have hR0 := hR
  obtain ⟨⟨t1, t2, t3⟩, ⟨s1, s2, s3, s4⟩, ⟨b1, b2⟩, ⟨i1, i2⟩, hL⟩ := hR
  rw [c_puts t3 s3]
  by_cases c : 0 ≤ v.toInt ∧ v.toInt < ((tpn T).val : Int)
  · rw [if_pos c]
    refine hK _ b _ L (fun K hk => ?_)
    have e89 : zup I (sc 0 0) 0 v 89 = I 89 := zup_r (by decide)
    have e91 : zup I (sc 0 0) 0 v 91 = I 91 := zup_r (by decide)
    rw [m_puts (by rw [e89]; exact t2) (by rw [e91]; exact s2), if_pos c]
    obtain ⟨j, hj, rfl⟩ := v_of (by omega) c
    have hz : nI j = zrv T j := (zrv_p (by omega)).symm
    refine hk _ L ⟨T, (j, S.2), bt, n, l, zRl_s (zFs_t zFs_49 zFs_91) hR0 ⟨fun _ => hj, s1.2⟩ ?_ ?_ ?_⟩
    · obtain ⟨g0, g1, g2, g3, g4, g5, g6, g7⟩ := s2
      rw [zup_row, e91]
      refine ⟨pup_s.trans hz, (pup_n (by decide)).trans g1, fun k hk => (pup_n (by omega)).trans (g2 k hk), fun k hk => (pup_n (by omega)).trans (g3 k hk), (pup_n (by decide)).trans g4, fun i hi => (pup_n (by omega)).trans (g5 i hi), fun i hi => (pup_n (by omega)).trans (g6 i hi), fun i hi => (pup_n (by omega)).trans (g7 i hi)⟩
    · have e : ∀ c, zup (zup I (sc 0 0) 0 (nI j)) 91 0 (nI j) (sc 0 c) = zup I (sc 0 0) 0 (nI j) (sc 0 c) := fun c => zup_r (fun q => by have := sc0_r c; omega)
      have n0 : ∀ c, c ≤ 5 → c ≠ 0 → zup I (sc 0 0) 0 (nI j) (sc 0 c) = I (sc 0 c) := fun c h5 h0 => zup_r (fun q => by rw [sc_eqc h5 (by decide)] at q; exact h0 q)
      obtain ⟨⟨g0, g1, g2, g3⟩, g4, g5⟩ := s3
      refine ⟨⟨?_, ?_, ?_, ?_⟩, fun k hk => ?_, fun i hi => ?_⟩
      · rw [e, zup_s]; exact hz
      · rw [e, zup_k (by decide)]; exact g1
      · rw [e, zup_k (by decide)]; exact g2
      · rw [e, zup_k (by decide)]; exact g3
      · rw [e, e, n0 1 (by decide) (by decide), n0 2 (by decide) (by decide)]; exact g4 k hk
      · rw [e, e, e, n0 3 (by decide) (by decide), n0 4 (by decide) (by decide), n0 5 (by decide) (by decide)]; exact g5 i hi
    · rw [zup_r (by decide), zup_r (by decide)]; exact s4
  · rw [if_neg c]
    refine hK _ b I L (fun K hk => ?_)
    rw [m_puts t2 s2, if_neg c]
    exact hk I L ⟨T, S, bt, n, l, hR0⟩
theorem p_lot (hR : zRl b I L) (hK : ∀ y b' I' L', zMo d mX11_lot [.ref 87, .int v] b' I' L' (.int y) → Q (some (.int y)) sg (rg b') I' L') : zW (d + 20) mX10_lot [.ref 0, .int v] sg (rg b) I L Q := by
  obtain ⟨T, S, bt, n, l, hR⟩ := hR
  have hR0 := hR
  obtain ⟨⟨t1, t2, t3⟩, ⟨s1, s2, s3, s4⟩, ⟨b1, b2⟩, ⟨i1, i2⟩, hL⟩ := hR
  rw [c_lot s3]
  refine hK _ b _ L (fun K hk => ?_)
  rw [m_lot, zup_r (by decide), s4]
  refine hk _ L ⟨T, S, bt, n, v, zRl_s (zFs_t zFs_49 zFs_87) hR0 s1 ?_ ?_ ?_⟩
  · rw [zup_r (by decide), zup_r (by decide)]; exact s2
  · have e : ∀ c, zup (zup I (sc 0 0) 2 v) 87 1 v (sc 0 c) = zup I (sc 0 0) 2 v (sc 0 c) := fun c => zup_r (fun q => by have := sc0_r c; omega)
    have n0 : ∀ c, c ≤ 5 → c ≠ 0 → zup I (sc 0 0) 2 v (sc 0 c) = I (sc 0 c) := fun c h5 h0 => zup_r (fun q => by rw [sc_eqc h5 (by decide)] at q; exact h0 q)
    obtain ⟨⟨g0, g1, g2, g3⟩, g4, g5⟩ := s3
    refine ⟨⟨?_, ?_, ?_, ?_⟩, fun k hk => ?_, fun i hi => ?_⟩
    · rw [e, zup_k (by decide)]; exact g0
    · rw [e, zup_k (by decide)]; exact g1
    · rw [e, zup_s]
    · rw [e, zup_k (by decide)]; exact g3
    · rw [e, e, n0 1 (by decide) (by decide), n0 2 (by decide) (by decide)]; exact g4 k hk
    · rw [e, e, e, n0 3 (by decide) (by decide), n0 4 (by decide) (by decide), n0 5 (by decide) (by decide)]; exact g5 i hi
  · rw [zup_s]
theorem p_forget (hR : zRl b I L) (hK : ∀ y b' I' L', zMo d mX11_forget [.ref 87] b' I' L' (.int y) → Q (some (.int y)) sg (rg b') I' L') : zW (d + 20) mX10_forget [.ref 0] sg (rg b) I L Q := by
  obtain ⟨T, S, bt, n, l, hR⟩ := hR
  have hR0 := hR
  obtain ⟨⟨t1, t2, t3⟩, ⟨s1, s2, s3, s4⟩, ⟨b1, b2⟩, ⟨i1, i2⟩, hL⟩ := hR
  rw [c_forget s3]
  refine hK _ b _ L (fun K hk => ?_)
  have e91 : zup I (sc 0 0) 3 (nI 0) 91 = I 91 := zup_r (by decide)
  rw [m_forget (S := S) (T := T) (by rw [e91]; exact s2)]
  refine hk _ L ⟨T, (srg S, swk S, snx S, shd S, 0, sse S, sss S, ssf S), bt, n, l, zRl_s (zFs_t zFs_49 zFs_91) hR0 s1 ?_ ?_ ?_⟩
  · obtain ⟨g0, g1, g2, g3, g4, g5, g6, g7⟩ := s2
    rw [zup_row, e91]
    refine ⟨(pup_n (by decide)).trans g0, (pup_n (by decide)).trans g1, fun k hk => (pup_n (by omega)).trans (g2 k hk), fun k hk => (pup_n (by omega)).trans (g3 k hk), pup_s, fun i hi => absurd hi (Nat.not_lt_zero i), fun i hi => absurd hi (Nat.not_lt_zero i), fun i hi => absurd hi (Nat.not_lt_zero i)⟩
  · have e : ∀ c, zup (zup I (sc 0 0) 3 (nI 0)) 91 10 (nI 0) (sc 0 c) = zup I (sc 0 0) 3 (nI 0) (sc 0 c) := fun c => zup_r (fun q => by have := sc0_r c; omega)
    have n0 : ∀ c, c ≤ 5 → c ≠ 0 → zup I (sc 0 0) 3 (nI 0) (sc 0 c) = I (sc 0 c) := fun c h5 h0 => zup_r (fun q => by rw [sc_eqc h5 (by decide)] at q; exact h0 q)
    obtain ⟨⟨g0, g1, g2, g3⟩, g4, g5⟩ := s3
    refine ⟨⟨?_, ?_, ?_, ?_⟩, fun k hk => ?_, fun i hi => absurd hi (Nat.not_lt_zero i)⟩
    · rw [e, zup_k (by decide)]; exact g0
    · rw [e, zup_k (by decide)]; exact g1
    · rw [e, zup_k (by decide)]; exact g2
    · rw [e, zup_s]; rfl
    · rw [e, e, n0 1 (by decide) (by decide), n0 2 (by decide) (by decide)]; exact g4 k hk
  · rw [zup_r (by decide), zup_r (by decide)]; exact s4
theorem p_looks (hR : zRl b I L) (hK : ∀ y b' I' L', zMo d mX11_looks [.ref 87, .int v, .int w] b' I' L' (.int y) → Q (some (.int y)) sg (rg b') I' L') : zW (d + 20) mX10_looks [.ref 0, .int v, .int w] sg (rg b) I L Q := by
  obtain ⟨T, S, bt, n, l, hR⟩ := hR
  have hR0 := hR
  obtain ⟨⟨t1, t2, t3⟩, ⟨s1, s2, s3, s4⟩, ⟨b1, b2⟩, ⟨i1, i2⟩, hL⟩ := hR
  rw [c_looks t3 s3 s1.1]
  by_cases c : (0 ≤ v.toInt ∧ v.toInt < ((tsn T).val : Int)) ∧ (0 ≤ w.toInt ∧ w.toInt < ((tpn T).val : Int))
  · rw [if_pos c]
    by_cases c2 : w = nI (srg S)
    · rw [if_pos c2]
      refine hK _ b _ L (fun K hk => ?_)
      generalize hM : zcs I 0 (thi T (tlw T) (srg S) l).1 (swk S) (thi T (tlw T) (srg S) l).2 (snx S) (pup (shd S) v.toInt.toNat (shd S v.toInt.toNat + nI 1)) = M
      have e89 : M 89 = I 89 := by rw [← hM]; exact zcs_g (by decide)
      have e91 : M 91 = I 91 := by rw [← hM]; exact zcs_g (by decide)
      have e87 : M 87 1 = l := by rw [← hM, zcs_g (by decide)]; exact s4
      have hp : 0 < (tpn T).val := by omega
      refine m_looks (T := T) (S := S) (by rw [e89]; exact t2) (by rw [e91]; exact s2) s1.1 ?_
      rw [if_pos c, if_pos c2, e87, e91]
      intro I2 h1 h2 h3
      have hr' := thi_lt (T := T) (law := (tlw T).val) (lot := l) (s1.1 hp)
      have hj : v.toInt.toNat < 4 := by omega
      refine hk I2 L ⟨T, ((thi T (tlw T) (srg S) l).1, swk S, snx S, pup (shd S) v.toInt.toNat (shd S v.toInt.toNat + nI 1), ssn S, sse S, sss S, ssf S), bt, n, (thi T (tlw T) (srg S) l).2, zRl_s (zFs_t (by rw [← hM]; exact zFs_zc) (zFs_kp h1)) hR0 ⟨fun _ => hr', s1.2⟩ ?_ ?_ h3⟩
      · obtain ⟨g0, g1, g2, g3, g4, g5, g6, g7⟩ := s2
        rw [h2]
        refine ⟨pup_s.trans (zrv_p hp).symm, ?_, fun k hk => ?_, fun k hk => ?_, ?_, fun i hi => ?_, fun i hi => ?_, fun i hi => ?_⟩
        · rw [pup_n (by decide), pup_n (by omega)]; exact g1
        · rw [pup_n (by omega), pup_n (by omega)]; exact g2 k hk
        · rw [pup_n (by omega)]
          show _ = pup (shd S) v.toInt.toNat (shd S v.toInt.toNat + nI 1) k
          by_cases e : k = v.toInt.toNat
          · rw [e, pup_s, pup_s]
          · rw [pup_n (by omega), pup_n e]; exact g3 k hk
        · rw [pup_n (by decide), pup_n (by omega)]; exact g4
        · rw [pup_n (by omega), pup_n (by omega)]; exact g5 i hi
        · rw [pup_n (by omega), pup_n (by omega)]; exact g6 i hi
        · rw [pup_n (by omega), pup_n (by omega)]; exact g7 i hi
      · obtain ⟨⟨g0, g1, g2, g3⟩, g4, g5⟩ := s3
        refine ⟨⟨?_, ?_, ?_, ?_⟩, fun k hk => ⟨?_, ?_⟩, fun i hi => ?_⟩
        · rw [kp_sc h1, ← hM, zcs_0]; exact (zrv_p hp).symm
        · rw [kp_sc h1, ← hM, zcs_1]; rfl
        · rw [kp_sc h1, ← hM, zcs_2]
        · rw [kp_sc h1, ← hM, zcs_3]; exact g3
        · rw [kp_sc h1, ← hM, zcs_n hk]; rfl
        · rw [kp_sc h1, ← hM, zcs_h hk]; rfl
        · rw [kp_sc h1, kp_sc h1, kp_sc h1, ← hM, zcs_x (by decide) (by decide), zcs_x (by decide) (by decide), zcs_x (by decide) (by decide)]; exact g5 i hi
    · rw [if_neg c2]
      refine hK _ b I L (fun K hk => ?_)
      refine m_looks t2 s2 s1.1 ?_
      rw [if_pos c, if_neg c2]
      exact hk I L ⟨T, S, bt, n, l, hR0⟩
  · rw [if_neg c]
    refine hK _ b I L (fun K hk => ?_)
    refine m_looks t2 s2 s1.1 ?_
    rw [if_neg c]
    exact hk I L ⟨T, S, bt, n, l, hR0⟩
end S

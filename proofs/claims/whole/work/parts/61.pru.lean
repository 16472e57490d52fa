/-! the text, the town, kinds -/
section S
variable {d : Nat} {Q : zPo} {I : zIm} {L : zLm} {b : Bool} {v w z : Int32}
theorem p_clear (hR : zRl b I L) (hK : ∀ y b' I' L', zMo d mX11_clear [.ref 87] b' I' L' (.int y) → Q (some (.int y)) sg (rg b') I' L') : zW (d + 20) mX10_clear [.ref 0] sg (rg b) I L Q := by
  obtain ⟨T, S, bt, n, l, hR⟩ := hR
  obtain ⟨⟨t1, t2, t3⟩, ⟨s1, s2, s3, s4⟩, ⟨b1, b2⟩, ⟨i1, i2⟩, hL⟩ := hR
  rw [c_clear, b2.2.1]
  refine hK _ b _ L (fun K hk => ?_)
  rw [m_clear, zup_r (by decide), b1.2.1]
  have e : ∀ a, a ≠ 1 → a ≠ 87 → zup (zup I 1 0 (nI 0)) 87 3 (nI 0) a = I a := fun a h1 h87 => by rw [zup_r h87, zup_r h1]
  have hb := tc_22 b
  refine hk _ L ⟨T, S, bt, 0, l, ⟨t1, ?_, ?_⟩, ⟨s1, ?_, ?_, ?_⟩, ⟨⟨Nat.zero_le _, ?_, fun k hk => absurd hk (Nat.not_lt_zero k)⟩, ⟨Nat.zero_le _, ?_, fun k hk => absurd hk (Nat.not_lt_zero k)⟩⟩, ⟨?_, ?_⟩, hL⟩
  · rw [e 89 (by decide) (by decide)]; exact t2
  · refine zTc_e t3 (fun c => ?_)
    have := tc_r b c
    exact e _ (by omega) (by omega)
  · rw [e 91 (by decide) (by decide)]; exact s2
  · refine zSk_e s3 (fun c => ?_)
    have := sc0_r c
    exact e _ (by omega) (by omega)
  · rw [zup_k (by decide), zup_r (by decide)]; exact s4
  · rw [zup_s]
  · rw [zup_r (by decide), zup_s]
  · exact zIg_f (e 93 (by decide) (by decide)) (e 62 (by decide) (by decide)) (e 92 (by decide) (by decide)) (e 97 (by decide) (by decide)) (fun a h1 h2 => e a (by omega) (by omega)) (by decide) i1
  · exact zIg_f (e 93 (by decide) (by decide)) (e 62 (by decide) (by decide)) (e 92 (by decide) (by decide)) (e 97 (by decide) (by decide)) (fun a h1 h2 => e a (by omega) (by omega)) (by decide) i2
theorem p_type {x : Int64} (hR : zRl b I L) (hK : ∀ y b' I' L', zMo d mX11_type [.ref 87, .long x, .int v] b' I' L' (.int y) → Q (some (.int y)) sg (rg b') I' L') : zW (d + 20) mX10_type [.ref 0, .long x, .int v] sg (rg b) I L Q := by
  obtain ⟨T, S, bt, n, l, hR⟩ := hR
  have hR0 := hR
  obtain ⟨⟨t1, t2, t3⟩, ⟨s1, s2, s3, s4⟩, ⟨b1, b2⟩, ⟨i1, i2⟩, hL⟩ := hR
  have hn := b1.1
  rw [c_type b2.2.1 hn]
  by_cases c : 1 ≤ v.toInt ∧ v.toInt ≤ 8
  · rw [if_pos c]
    by_cases c2 : 200 < n + v.toInt.toNat
    · rw [if_pos c2]
      refine hK _ b I L (fun K hk => ?_)
      rw [m_type b1.2.1 hn, if_pos c, if_pos c2]
      exact hk I L ⟨T, S, bt, n, l, hR0⟩
    · rw [if_neg c2]
      refine hK _ b _ L (fun K hk => ?_)
      generalize hm : v.toInt.toNat = m at *
      generalize hM : zup (fil I 2 n (fun i => nI (lby x (m - (i + 1)))) m) 1 0 (nI (n + m)) = M
      have eM : ∀ a, a ≠ 1 → a ≠ 2 → M a = I a := fun a h1 h2 => by rw [← hM, zup_r h1, fil_r h2]
      rw [m_type (t := n) (by rw [eM 87 (by decide) (by decide)]; exact b1.2.1) hn, if_pos c, hm, if_neg c2]
      generalize hN : zup (fil M 88 n (fun i => nI (lby x (m - (i + 1)))) m) 87 3 (nI (n + m)) = N
      have eN : ∀ a, a ≠ 87 → a ≠ 88 → N a = M a := fun a h1 h2 => by rw [← hN, zup_r h1, fil_r h2]
      have e : ∀ a, a ≠ 1 → a ≠ 2 → a ≠ 87 → a ≠ 88 → N a = I a := fun a h1 h2 h3 h4 => by rw [eN a h3 h4, eM a h1 h2]
      have hb := tc_22 b
      have hbt : ∀ k, k < n + m → (fun j => if n ≤ j ∧ j < n + m then Fin.ofNat 256 (lby x (m - (j - n + 1))) else bt j : Nat → Fin 256) k = if n ≤ k then Fin.ofNat 256 (lby x (m - (k - n + 1))) else bt k := fun k hk => by
        by_cases q : n ≤ k
        · rw [if_pos q]; exact if_pos ⟨q, hk⟩
        · rw [if_neg q]; exact if_neg (fun w => q w.1)
      refine hk N L ⟨T, S, (fun j => if n ≤ j ∧ j < n + m then Fin.ofNat 256 (lby x (m - (j - n + 1))) else bt j), n + m, l, ⟨t1, ?_, ?_⟩, ⟨s1, ?_, ?_, ?_⟩, ⟨⟨by omega, ?_, fun k hk => ?_⟩, ⟨by omega, ?_, fun k hk => ?_⟩⟩, ⟨?_, ?_⟩, hL⟩
      · rw [e 89 (by decide) (by decide) (by decide) (by decide)]; exact t2
      · refine zTc_e t3 (fun c => ?_)
        have := tc_r b c
        exact e _ (by omega) (by omega) (by omega) (by omega)
      · rw [e 91 (by decide) (by decide) (by decide) (by decide)]; exact s2
      · refine zSk_e s3 (fun c => ?_)
        have := sc0_r c
        exact e _ (by omega) (by omega) (by omega) (by omega)
      · rw [← hN, zup_k (by decide), fil_r (by decide), eM 87 (by decide) (by decide)]; exact s4
      · rw [← hN, zup_s]
      · rw [hbt k hk, ← hN, zup_r (by decide)]
        by_cases q : n ≤ k
        · rw [if_pos q, fo_v (lby_lt _ _)]
          obtain ⟨j, rfl⟩ : ∃ j, k = n + j := ⟨k - n, by omega⟩
          rw [fil_i (by omega), show n + j - n = j by omega]
        · rw [if_neg q, fil_o (by omega), eM 88 (by decide) (by decide)]; exact b1.2.2 k (by omega)
      · rw [eN 1 (by decide) (by decide), ← hM, zup_s]
      · rw [hbt k hk, eN 2 (by decide) (by decide), ← hM, zup_r (by decide)]
        by_cases q : n ≤ k
        · rw [if_pos q, fo_v (lby_lt _ _)]
          obtain ⟨j, rfl⟩ : ∃ j, k = n + j := ⟨k - n, by omega⟩
          rw [fil_i (by omega), show n + j - n = j by omega]
        · rw [if_neg q, fil_o (by omega)]; exact b2.2.2 k (by omega)
      · exact zIg_f (e 93 (by decide) (by decide) (by decide) (by decide)) (e 62 (by decide) (by decide) (by decide) (by decide)) (e 92 (by decide) (by decide) (by decide) (by decide)) (e 97 (by decide) (by decide) (by decide) (by decide)) (fun a h1 h2 => e a (by omega) (by omega) (by omega) (by omega)) (by decide) i1
      · exact zIg_f (e 93 (by decide) (by decide) (by decide) (by decide)) (e 62 (by decide) (by decide) (by decide) (by decide)) (e 92 (by decide) (by decide) (by decide) (by decide)) (e 97 (by decide) (by decide) (by decide) (by decide)) (fun a h1 h2 => e a (by omega) (by omega) (by omega) (by omega)) (by decide) i2
  · rw [if_neg c]
    refine hK _ b I L (fun K hk => ?_)
    rw [m_type b1.2.1 hn, if_neg c]
    exact hk I L ⟨T, S, bt, n, l, hR0⟩
theorem p_mark (hR : zRl b I L) (hK : ∀ y b' I' L', zMo d mX11_mark [.ref 87, .int v, .int w] b' I' L' (.int y) → Q (some (.int y)) sg (rg b') I' L') : zW (d + 20) mX10_mark [.ref 0, .int v, .int w] sg (rg b) I L Q := by
  obtain ⟨T, S, bt, n, l, hR⟩ := hR
  have hR0 := hR
  obtain ⟨⟨t1, t2, t3⟩, ⟨s1, s2, s3, s4⟩, ⟨b1, b2⟩, ⟨i1, i2⟩, hL⟩ := hR
  rw [c_mark t3 s3]
  by_cases c : (0 ≤ v.toInt ∧ v.toInt < 6) ∧ (0 ≤ w.toInt ∧ w.toInt < ((tsn T).val : Int))
  · rw [if_pos c]
    refine hK _ b I _ (fun K hk => ?_)
    rw [m_mark t2 s2, if_pos c]
    refine hk I _ ⟨T, S, bt, n, l, ⟨t1, t2, t3⟩, ⟨s1, s2, s3, s4⟩, ⟨b1, b2⟩, ⟨i1, i2⟩, ?_⟩
    obtain ⟨j, hj, rfl⟩ := v_of (n := 6) (v := v) (by omega) (by omega)
    rw [nI_toInt (by omega), Int.toNat_natCast]
    generalize r_add (nI j) = q
    have hj6 : j = 0 ∨ j = 1 ∨ j = 2 ∨ j = 3 ∨ j = 4 ∨ j = 5 := by omega
    unfold zTr at hL ⊢
    have e87 : ∀ {A : zLm} {c : Nat} {y : Int64}, c < 87 → zup A c 0 y 87 0 = A 87 0 := fun {A c y} h => by rw [zup_r (by omega)]
    rw [zup_s, e87 (by omega), hL]
    rcases hj6 with rfl | rfl | rfl | rfl | rfl | rfl
    all_goals
      simp (disch := decide) only [zup_s, zup_r, Nat.reduceAdd]
      ac_rfl
  · rw [if_neg c]
    refine hK _ b I L (fun K hk => ?_)
    rw [m_mark t2 s2, if_neg c]
    exact hk I L ⟨T, S, bt, n, l, hR0⟩
theorem p_town (hR : zRl b I L) (hK : ∀ y b' I' L', zMo d mX11_town [.ref 87] b' I' L' (.int y) → Q (some (.int y)) sg (rg b') I' L') : zW (d + 20) mX10_town [.ref 0] sg (rg b) I L Q := by
  obtain ⟨T, S, bt, n, l, hR⟩ := hR
  have hR0 := hR
  obtain ⟨⟨t1, t2, t3⟩, ⟨s1, s2, s3, s4⟩, ⟨b1, b2⟩, ⟨i1, i2⟩, hL⟩ := hR
  refine c_town (d := d + 8) b2 (fun h1 I1 hc => ?_) (fun h1 I1 hc => ?_)
  · obtain ⟨c1, c2, c3, c4, c5, c6⟩ := hc
    refine hK _ (!b) I1 L (fun K hk => ?_)
    have hb := tc_22 (!b)
    have eg : ∀ a, 55 ≤ a → a ≠ 62 → I1 a = I a := fun a h55 h62 => c1 a (by omega) h62 (by omega) (by omega)
    have hB1 : zBy bt n I1 := ⟨b1.1, by rw [eg 87 (by decide) (by decide)]; exact b1.2.1, by rw [eg 88 (by decide) (by decide)]; exact b1.2.2⟩
    refine m_town hB1 (fun _ I2 hm => ?_) (fun h2 => by rw [h1] at h2; cases h2)
    obtain ⟨m1, m2, m3, m4, m5, m6, m7⟩ := hm
    have hw := pta_w (bt := bt) (n := n)
    have hv := pta_v (bt := bt) (n := n)
    generalize pta bt n = P at *
    refine hk I2 L ⟨dT P.2.2.1, zS0 (dR P.2.2.1), bt, 0, l, ⟨hw.1, m4, ?_⟩, ⟨⟨fun hp => ?_, fun k hk => (hw.1.2 k hk).1, fun k _ => (by decide : (0 : Nat) < 5)⟩, ?_, ?_, ?_⟩, ⟨⟨Nat.zero_le _, m3, fun k hk => absurd hk (Nat.not_lt_zero k)⟩, ⟨Nat.zero_le _, ?_, fun k hk => absurd hk (Nat.not_lt_zero k)⟩⟩, ⟨Or.inl ⟨m6, ?_⟩, Or.inl ⟨m7, ?_⟩⟩, hL⟩
    · refine zTc_e c3 (fun c => ?_)
      have := tc_r (!b) c
      exact m1 _ (by omega) (by omega) (by omega) (by omega) (by omega)
    · have := hw.2
      show dR P.2.2.1 < _
      omega
    · rw [m5]
      refine ⟨rfl, rfl, fun k hk => ?_, fun k hk => ?_, rfl, fun i hi => absurd hi (Nat.not_lt_zero i), fun i hi => absurd hi (Nat.not_lt_zero i), fun i hi => absurd hi (Nat.not_lt_zero i)⟩
      · show (if 2 + k = 0 then _ else if 2 + k < 36 then nI 0 else _) = nI 0
        rw [if_neg (by omega), if_pos (by omega)]
      · show (if 6 + k = 0 then _ else if 6 + k < 36 then nI 0 else _) = nI 0
        rw [if_neg (by omega), if_pos (by omega)]
    · have h4 : zSk (dT P.2.2.1) (zS0 (dR P.2.2.1)) l 0 I1 := by rw [← s3.1.2.2.1]; exact c4
      refine zSk_e h4 (fun c => ?_)
      have := sc0_r c
      exact m1 _ (by omega) (by omega) (by omega) (by omega) (by omega)
    · rw [m2, eg 87 (by decide) (by decide)]; exact s4
    · rw [m1 1 (by decide) (by decide) (by decide) (by decide) (by decide)]; exact c2
    · rw [m1 62 (by decide) (by decide) (by decide) (by decide) (by decide)]; exact c5
    · rw [m1 62 (by decide) (by decide) (by decide) (by decide) (by decide)]; exact c6
  · have f1 := zFm_tl hc
    refine hK _ b I1 L (fun K hk => ?_)
    refine m_town (zFm_By f1 b1) (fun h2 => by rw [h1] at h2; cases h2) (fun _ I2 h2 => ?_)
    exact hk I2 L ⟨T, S, bt, n, l, zRl_f (zFm_t f1 (zFm_kq h2)) hL hR0⟩
end S

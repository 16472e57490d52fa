/-! BOTH HALVES: what is so between calls -/
def zIg (T : zT) (I : zIm) (m : Nat) : Prop := (I 93 m = nI 0 ∧ I 62 m = nI 0) ∨ (I 93 m = nI 1 ∧ I 62 m = nI 1 ∧ ∃ S l, zSw T S ∧ zSo T S (fun j => I 92 (36 * m + j)) ∧ I 97 m = l ∧ zSk T S l (2 + m) I)
def zTr (L : zLm) : Int64 := 0 + L 81 0 + L 82 0 + L 83 0 + L 84 0 + L 85 0 + L 86 0
def zRl' (b : Bool) (I : zIm) (L : zLm) (T : zT) (S : zU) (bt : Nat → Fin 256) (n : Nat) (l : Int32) : Prop := (zTw T ∧ zTo T (I 89) ∧ zTc T b I) ∧ (zSw T S ∧ zSo T S (I 91) ∧ zSk T S l 0 I ∧ I 87 1 = l) ∧ (zBy bt n I ∧ zBc bt n I) ∧ (zIg T I 0 ∧ zIg T I 1) ∧ L 87 0 = zTr L
def zRl (b : Bool) (I : zIm) (L : zLm) : Prop := ∃ T S bt n l, zRl' b I L T S bt n l
/-- rows that count -/
def zFm (b : Bool) (I I' : zIm) : Prop := (∀ a, (a = 2 ∨ (tc b 0 ≤ a ∧ a ≤ tc b 22) ∨ (49 ≤ a ∧ a ≤ 54) ∨ a = 62 ∨ (69 ≤ a ∧ a ≤ 80) ∨ a = 88 ∨ a = 89 ∨ a = 91 ∨ a = 92 ∨ a = 93 ∨ a = 97) → I' a = I a) ∧ I' 1 0 = I 1 0 ∧ I' 87 1 = I 87 1 ∧ I' 87 3 = I 87 3
theorem zFm_i {b : Bool} {I : zIm} : zFm b I I := ⟨fun _ _ => rfl, rfl, rfl, rfl⟩
theorem zFm_t {b : Bool} {I I' I'' : zIm} (h : zFm b I I') (h' : zFm b I' I'') : zFm b I I'' := ⟨fun a ha => (h'.1 a ha).trans (h.1 a ha), h'.2.1.trans h.2.1, h'.2.2.1.trans h.2.2.1, h'.2.2.2.trans h.2.2.2⟩
theorem tc_22 (b : Bool) : 3 ≤ tc b 0 ∧ tc b 22 ≤ 48 := ⟨(tc_r b 0).1, (tc_r b 22).2⟩
theorem zFm_kc {b : Bool} {I I' : zIm} (h : kc I I') : zFm b I I' := by
  have := tc_22 b
  exact ⟨fun a ha => h a (by omega), by rw [h 1 (by omega)], by rw [h 87 (by omega)], by rw [h 87 (by omega)]⟩
theorem zFm_kq {b : Bool} {I I' : zIm} (h : kq I I') : zFm b I I' := by
  have := tc_22 b
  refine ⟨fun a ha => ?_, by rw [h.1.1 1 (by decide) (by decide) (by decide) (by decide) (by decide) (by decide)], h.2.2, h.1.2⟩
  by_cases e : a = 91
  · rw [e]; exact h.2.1
  · exact h.1.1 a (by omega) e (by omega) (by omega) (by omega) (by omega)
theorem tc_ap (b : Bool) {a : Nat} (h : tc b 0 ≤ a ∧ a ≤ tc b 22) : ¬ (tc (!b) 0 ≤ a ∧ a ≤ tc (!b) 22) := by
  cases b
  · have h1 : tc false 22 = 25 := rfl
    have h2 : tc (!false) 0 = 26 := rfl
    omega
  · have h1 : tc true 0 = 26 := rfl
    have h2 : tc (!true) 22 = 25 := rfl
    omega
theorem zFm_tl {b : Bool} {I I' : zIm} (h : zTl (!b) I I') : zFm b I I' := by
  have := tc_22 b
  have h2 := tc_22 (!b)
  refine ⟨fun a ha => h.1 a (by omega) ?_, h.2, by rw [h.1 87 (by decide) (by omega)], by rw [h.1 87 (by decide) (by omega)]⟩
  by_cases e : tc b 0 ≤ a ∧ a ≤ tc b 22
  · exact tc_ap b e
  · omega
theorem zFm_ko {b : Bool} {I I' : zIm} {L L' : zLm} (h : ko I I' L L') : zFm b I I' := by
  have := tc_22 b
  exact ⟨fun a ha => h.1 a (by omega), by rw [h.1 1 (by decide)], by rw [h.1 87 (by decide)], by rw [h.1 87 (by decide)]⟩
section
variable {b : Bool} {I I' : zIm} {L L' : zLm} {T : zT} {S : zU} {bt : Nat → Fin 256} {n m : Nat} {l : Int32}
theorem zFm_T (h : zFm b I I') (hT : zTc T b I) : zTc T b I' := zTc_e hT (fun c => h.1 _ (Or.inr (Or.inl (by
  have h0 : tc b c = tc b 0 + min c 22 := by unfold tc; rw [show min 0 22 = 0 by omega]; rfl
  have h22 : tc b 22 = tc b 0 + 22 := by unfold tc; rw [show min 0 22 = 0 by omega]; rfl
  omega))))
theorem zFm_S (h : zFm b I I') (hS : zSk T S l 0 I) : zSk T S l 0 I' := zSk_e hS (fun c => h.1 _ (Or.inr (Or.inr (Or.inl (sc0_r c)))))
theorem sc2_r (m c : Nat) (hm : m < 2) : 69 ≤ sc (2 + m) c ∧ sc (2 + m) c ≤ 80 := by
  have : m = 0 ∨ m = 1 := by omega
  rcases this with rfl | rfl
  · show 69 ≤ 69 + min c 5 ∧ 69 + min c 5 ≤ 80; omega
  · show 69 ≤ 75 + min c 5 ∧ 75 + min c 5 ≤ 80; omega
theorem zIg_f (h93 : I' 93 = I 93) (h62 : I' 62 = I 62) (h92 : I' 92 = I 92) (h97 : I' 97 = I 97) (hi : ∀ a, 69 ≤ a → a ≤ 80 → I' a = I a) (hm : m < 2) (h : zIg T I m) : zIg T I' m := by
  unfold zIg at h ⊢
  rw [h93, h62, h92, h97]
  rcases h with h | ⟨h1, h2, S, l, h3, h4, h5, h6⟩
  · exact Or.inl h
  · exact Or.inr ⟨h1, h2, S, l, h3, h4, h5, zSk_e h6 (fun c => hi _ (sc2_r m c hm).1 (sc2_r m c hm).2)⟩
theorem zFm_I (h : zFm b I I') (hm : m < 2) (hg : zIg T I m) : zIg T I' m := zIg_f (h.1 93 (by omega)) (h.1 62 (by omega)) (h.1 92 (by omega)) (h.1 97 (by omega)) (fun a h1 h2 => h.1 a (by omega)) hm hg
theorem zFm_By (h : zFm b I I') (hB : zBy bt n I) : zBy bt n I' := ⟨hB.1, by rw [h.2.2.2]; exact hB.2.1, by rw [h.1 88 (by omega)]; exact hB.2.2⟩
theorem zFm_Bc (h : zFm b I I') (hB : zBc bt n I) : zBc bt n I' := ⟨hB.1, by rw [h.2.1]; exact hB.2.1, by rw [h.1 2 (by omega)]; exact hB.2.2⟩
theorem zRl_f (h : zFm b I I') (hL : L' 87 0 = zTr L') (hR : zRl' b I L T S bt n l) : zRl' b I' L' T S bt n l := by
  obtain ⟨⟨t1, t2, t3⟩, ⟨s1, s2, s3, s4⟩, ⟨b1, b2⟩, ⟨i1, i2⟩, -⟩ := hR
  exact ⟨⟨t1, by rw [h.1 89 (by omega)]; exact t2, zFm_T h t3⟩, ⟨s1, by rw [h.1 91 (by omega)]; exact s2, zFm_S h s3, by rw [h.2.2.1]; exact s4⟩, ⟨zFm_By h b1, zFm_Bc h b2⟩, ⟨zFm_I h (by decide) i1, zFm_I h (by decide) i2⟩, hL⟩
/-- all but NOW -/
def zFs (b : Bool) (I I' : zIm) : Prop := (∀ a, (a = 2 ∨ (tc b 0 ≤ a ∧ a ≤ tc b 22) ∨ a = 62 ∨ (69 ≤ a ∧ a ≤ 80) ∨ a = 88 ∨ a = 89 ∨ a = 92 ∨ a = 93 ∨ a = 97) → I' a = I a) ∧ I' 1 0 = I 1 0 ∧ I' 87 3 = I 87 3
theorem zFs_t {I'' : zIm} (h : zFs b I I') (h' : zFs b I' I'') : zFs b I I'' := ⟨fun a ha => (h'.1 a ha).trans (h.1 a ha), h'.2.1.trans h.2.1, h'.2.2.trans h.2.2⟩
theorem zRl_s {S' : zU} {l' : Int32} (h : zFs b I I') (hR : zRl' b I L T S bt n l) (h1 : zSw T S') (h2 : zSo T S' (I' 91)) (h3 : zSk T S' l' 0 I') (h4 : I' 87 1 = l') : zRl' b I' L T S' bt n l' := by
  obtain ⟨⟨t1, t2, t3⟩, -, ⟨b1, b2⟩, ⟨i1, i2⟩, hL⟩ := hR
  refine ⟨⟨t1, by rw [h.1 89 (by omega)]; exact t2, ?_⟩, ⟨h1, h2, h3, h4⟩, ⟨⟨b1.1, by rw [h.2.2]; exact b1.2.1, by rw [h.1 88 (by omega)]; exact b1.2.2⟩, ⟨b2.1, by rw [h.2.1]; exact b2.2.1, by rw [h.1 2 (by omega)]; exact b2.2.2⟩⟩, ⟨?_, ?_⟩, hL⟩
  · refine zTc_e t3 (fun c => h.1 _ (Or.inr (Or.inl ?_)))
    have h0 : tc b c = tc b 0 + min c 22 := by unfold tc; rw [show min 0 22 = 0 by omega]; rfl
    have h22 : tc b 22 = tc b 0 + 22 := by unfold tc; rw [show min 0 22 = 0 by omega]; rfl
    omega
  · exact zIg_f (h.1 93 (by omega)) (h.1 62 (by omega)) (h.1 92 (by omega)) (h.1 97 (by omega)) (fun a h1 h2 => h.1 a (by omega)) (by decide) i1
  · exact zIg_f (h.1 93 (by omega)) (h.1 62 (by omega)) (h.1 92 (by omega)) (h.1 97 (by omega)) (fun a h1 h2 => h.1 a (by omega)) (by decide) i2
end
/-! queries: both halves answer alike, nothing that counts changes -/
section S
variable {d : Nat} {Q : zPo} {I : zIm} {L : zLm} {b : Bool} {v w z : Int32}
/-- what the model's call may still assume -/
def zMo (d : Nat) (mm : zM) (as : List Value) (b : Bool) (I : zIm) (L : zLm) (x : Value) : Prop := ∀ K : zPo, (∀ I' L', zRl b I' L' → K (some x) sg (rg b) I' L') → zW (d + 20) mm as sg (rg b) I L K
theorem p_place (hR : zRl b I L) (hK : ∀ y b' I' L', zMo d mX11_place [.ref 87, .int v, .int w] b' I' L' (.int y) → Q (some (.int y)) sg (rg b') I' L') : zW (d + 20) mX10_place [.ref 0, .int v, .int w] sg (rg b) I L Q := by
  have hR0 := hR
  obtain ⟨T, S, bt, n, l, ⟨t1, t2, t3⟩, ⟨s1, s2, s3, s4⟩, ⟨b1, b2⟩, ⟨i1, i2⟩, hL⟩ := hR
  rw [c_place t3]
  refine hK _ b I L (fun K hk => ?_)
  rw [m_place t2]
  exact hk I L hR0
theorem p_seeker (hR : zRl b I L) (hK : ∀ y b' I' L', zMo d mX11_seeker [.ref 87, .int v, .int w] b' I' L' (.int y) → Q (some (.int y)) sg (rg b') I' L') : zW (d + 20) mX10_seeker [.ref 0, .int v, .int w] sg (rg b) I L Q := by
  have hR0 := hR
  obtain ⟨T, S, bt, n, l, ⟨t1, t2, t3⟩, ⟨s1, s2, s3, s4⟩, ⟨b1, b2⟩, ⟨i1, i2⟩, hL⟩ := hR
  rw [c_seeker t3 s3]
  refine hK _ b I L (fun K hk => ?_)
  rw [m_seeker t2 s2]
  exact hk I L hR0
theorem p_habit (hR : zRl b I L) (hK : ∀ y b' I' L', zMo d mX11_habit [.ref 87, .int v, .int w] b' I' L' (.int y) → Q (some (.int y)) sg (rg b') I' L') : zW (d + 20) mX10_habit [.ref 0, .int v, .int w] sg (rg b) I L Q := by
  have hR0 := hR
  obtain ⟨T, S, bt, n, l, ⟨t1, t2, t3⟩, ⟨s1, s2, s3, s4⟩, ⟨b1, b2⟩, ⟨i1, i2⟩, hL⟩ := hR
  rw [c_habit t3]
  refine hK _ b I L (fun K hk => ?_)
  rw [m_habit t2]
  exact hk I L hR0
theorem p_now (hR : zRl b I L) (hK : ∀ y b' I' L', zMo d mX11_now [.ref 87, .int v] b' I' L' (.int y) → Q (some (.int y)) sg (rg b') I' L') : zW (d + 20) mX10_now [.ref 0, .int v] sg (rg b) I L Q := by
  have hR0 := hR
  obtain ⟨T, S, bt, n, l, ⟨t1, t2, t3⟩, ⟨s1, s2, s3, s4⟩, ⟨b1, b2⟩, ⟨i1, i2⟩, hL⟩ := hR
  rw [c_now t3 s3]
  refine hK _ b I L (fun K hk => ?_)
  rw [m_now t2 s2]
  exact hk I L hR0
theorem p_lots (hR : zRl b I L) (hK : ∀ y b' I' L', zMo d mX11_lots [.ref 87, .int v, .int w] b' I' L' (.int y) → Q (some (.int y)) sg (rg b') I' L') : zW (d + 20) mX10_lots [.ref 0, .int v, .int w] sg (rg b) I L Q := by
  have hR0 := hR
  obtain ⟨T, S, bt, n, l, ⟨t1, t2, t3⟩, ⟨s1, s2, s3, s4⟩, ⟨b1, b2⟩, ⟨i1, i2⟩, hL⟩ := hR
  rw [c_lots t3 t1]
  refine hK _ b I L (fun K hk => ?_)
  rw [m_lots t2 t1]
  exact hk I L hR0
theorem p_sweep (hR : zRl b I L) (hK : ∀ y b' I' L', zMo d mX11_sweep [.ref 87, .int v] b' I' L' (.int y) → Q (some (.int y)) sg (rg b') I' L') : zW (d + 20) mX10_sweep [.ref 0, .int v] sg (rg b) I L Q := by
  have hR0 := hR
  obtain ⟨T, S, bt, n, l, ⟨t1, t2, t3⟩, ⟨s1, s2, s3, s4⟩, ⟨b1, b2⟩, ⟨i1, i2⟩, hL⟩ := hR
  rw [c_sweep t3]
  refine hK _ b I L (fun K hk => ?_)
  rw [m_sweep t2]
  exact hk I L hR0
theorem p_order (hR : zRl b I L) (hK : ∀ y b' I' L', zMo d mX11_order [.ref 87, .int v] b' I' L' (.int y) → Q (some (.int y)) sg (rg b') I' L') : zW (d + 20) mX10_order [.ref 0, .int v] sg (rg b) I L Q := by
  have hR0 := hR
  obtain ⟨T, S, bt, n, l, ⟨t1, t2, t3⟩, ⟨s1, s2, s3, s4⟩, ⟨b1, b2⟩, ⟨i1, i2⟩, hL⟩ := hR
  rw [c_order t3 (fun i hi => tor_g hi)]
  by_cases c : 0 ≤ v.toInt
  · rw [if_pos c]
    refine hK _ b I L (fun K hk => ?_)
    rw [m_order t2, if_pos c]
    exact hk I L hR0
  · rw [if_neg c]
    refine hK _ b I L (fun K hk => ?_)
    rw [m_order t2, if_neg c]
    exact hk I L hR0
theorem p_count (hR : zRl b I L) (hK : ∀ y b' I' L', zMo d mX11_count [.ref 87, .int v] b' I' L' (.int y) → Q (some (.int y)) sg (rg b') I' L') : zW (d + 20) mX10_count [.ref 0, .int v] sg (rg b) I L Q := by
  have hR0 := hR
  obtain ⟨T, S, bt, n, l, ⟨t1, t2, t3⟩, ⟨s1, s2, s3, s4⟩, ⟨b1, b2⟩, ⟨i1, i2⟩, hL⟩ := hR
  rw [c_count t3 s3]
  refine hK _ b I L (fun K hk => ?_)
  rw [m_count t2 s2, b1.2.1, ← b2.2.1]
  exact hk I L hR0
theorem p_trace (hR : zRl b I L) (hK : ∀ y b' I' L', zMo d mX11_trace [.ref 87] b' I' L' (.long y) → Q (some (.long y)) sg (rg b') I' L') : zW (d + 20) mX10_trace [.ref 0] sg (rg b) I L Q := by
  have hR0 := hR
  obtain ⟨T, S, bt, n, l, ⟨t1, t2, t3⟩, ⟨s1, s2, s3, s4⟩, ⟨b1, b2⟩, ⟨i1, i2⟩, hL⟩ := hR
  rw [c_trace]
  refine hK _ b I L (fun K hk => ?_)
  rw [m_trace, hL]
  exact hk I L hR0
theorem p_lies (hR : zRl b I L) (hK : ∀ y b' I' L', zMo d mX11_lies [.ref 87, .int v] b' I' L' (.int y) → Q (some (.int y)) sg (rg b') I' L') : zW (d + 20) mX10_lies [.ref 0, .int v] sg (rg b) I L Q := by
  obtain ⟨T, S, bt, n, l, hR⟩ := hR
  have hR0 := hR
  obtain ⟨⟨t1, t2, t3⟩, ⟨s1, s2, s3, s4⟩, ⟨b1, b2⟩, ⟨i1, i2⟩, hL⟩ := hR
  refine c_lies t3 s3 s1 (fun I1 h1 => ?_)
  refine hK _ b I1 L (fun K hk => ?_)
  obtain ⟨⟨u1, u2, u3⟩, ⟨v1, v2, v3, v4⟩, -⟩ := zRl_f (zFm_kc h1) hL hR0
  refine m_lies u2 t1 (fun k hk => v2.2.2.1 k hk) s1.2.1 (fun I2 h2 => ?_)
  rw [v4]
  exact hk I2 L ⟨T, S, bt, n, l, zRl_f (zFm_t (zFm_kc h1) (zFm_kq h2)) hL hR0⟩
theorem p_longest (hR : zRl b I L) (hK : ∀ y b' I' L', zMo d mX11_longest [.ref 87] b' I' L' (.int y) → Q (some (.int y)) sg (rg b') I' L') : zW (d + 20) mX10_longest [.ref 0] sg (rg b) I L Q := by
  obtain ⟨T, S, bt, n, l, hR⟩ := hR
  have hR0 := hR
  obtain ⟨⟨t1, t2, t3⟩, ⟨s1, s2, s3, s4⟩, ⟨b1, b2⟩, ⟨i1, i2⟩, hL⟩ := hR
  refine c_longest t3 s3 s1 (fun I1 h1 => ?_)
  refine hK _ b I1 L (fun K hk => ?_)
  obtain ⟨⟨u1, u2, u3⟩, ⟨v1, v2, v3, v4⟩, -⟩ := zRl_f (zFm_kc h1) hL hR0
  refine m_longest u2 t1 (fun k hk => v2.2.2.1 k hk) s1.2.1 (fun I2 h2 => ?_)
  rw [v4]
  exact hk I2 L ⟨T, S, bt, n, l, zRl_f (zFm_t (zFm_kc h1) (zFm_kq h2)) hL hR0⟩
theorem p_could (hR : zRl b I L) (hK : ∀ y b' I' L', zMo d mX11_could [.ref 87, .int v] b' I' L' (.int y) → Q (some (.int y)) sg (rg b') I' L') : zW (d + 20) mX10_could [.ref 0, .int v] sg (rg b) I L Q := by
  obtain ⟨T, S, bt, n, l, hR⟩ := hR
  have hR0 := hR
  obtain ⟨⟨t1, t2, t3⟩, ⟨s1, s2, s3, s4⟩, ⟨b1, b2⟩, ⟨i1, i2⟩, hL⟩ := hR
  refine c_could t3 t1 s3 ?_
  by_cases c : 0 ≤ v.toInt ∧ v.toInt < 2
  · rw [if_pos c]
    intro I1 h1
    refine hK _ b I1 L (fun K hk => ?_)
    obtain ⟨⟨u1, u2, u3⟩, ⟨v1, v2, v3, v4⟩, -⟩ := zRl_f (zFm_kc h1) hL hR0
    refine m_could u2 t1 v2 ?_
    rw [if_pos c]
    intro I2 h2
    exact hk I2 L ⟨T, S, bt, n, l, zRl_f (zFm_t (zFm_kc h1) (zFm_kq h2)) hL hR0⟩
  · rw [if_neg c]
    refine hK _ b I L (fun K hk => ?_)
    refine m_could t2 t1 s2 ?_
    rw [if_neg c]
    exact hk I L ⟨T, S, bt, n, l, hR0⟩
end S

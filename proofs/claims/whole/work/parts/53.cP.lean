/-! THE CLASS: a town is settled -/
/-- what was told, the ring aside -/
def zDs (T : zT) (F : zIm) : Prop := F 0 0 = nI (tpn T) ∧ F 0 1 = nI (tsn T) ∧ F 0 2 = nI (tlw T) ∧ F 0 4 = nI (tsm T (tpn T)) ∧ (∀ p, p < (tpn T).val → F 1 p = nI (thd T p)) ∧ (∀ k, k < (tsn T).val → F 6 k = nI (tmn T k) ∧ F 7 k = nI (tln T k) ∧ ∀ i, i < (tln T k).val → F (9 + k) i = nI (thb T k i))
/-- rows that are told -/
def zKr (F F' : zIm) : Prop := F' 0 = F 0 ∧ F' 1 = F 1 ∧ F' 6 = F 6 ∧ F' 7 = F 7 ∧ F' 9 = F 9 ∧ F' 10 = F 10 ∧ F' 11 = F 11 ∧ F' 12 = F 12
theorem zKr_9 {F F' : zIm} (h : zKr F F') {k : Nat} (hk : k < 4) : F' (9 + k) = F (9 + k) := by
  obtain ⟨-, -, -, -, h9, h10, h11, h12⟩ := h
  have : k = 0 ∨ k = 1 ∨ k = 2 ∨ k = 3 := by omega
  rcases this with rfl | rfl | rfl | rfl <;> assumption
theorem zDs_k {T : zT} {F F' : zIm} (h : zDs T F) (hk : zKr F F') : zDs T F' := by
  have h9 := fun {k} (hk4 : k < 4) => zKr_9 hk hk4
  obtain ⟨h0, h1, h2, h4, h5, h7⟩ := h
  obtain ⟨k0, k1, k6, k7, -⟩ := hk
  refine ⟨by rw [k0]; exact h0, by rw [k0]; exact h1, by rw [k0]; exact h2, by rw [k0]; exact h4, fun p hp => by rw [k1]; exact h5 p hp, fun k hk => ?_⟩
  obtain ⟨i1, i2, i3⟩ := h7 k hk
  exact ⟨by rw [k6]; exact i1, by rw [k7]; exact i2, fun i hi => by rw [h9 (by omega)]; exact i3 i hi⟩
theorem tbe_0 {T : zT} {far : Bool} {r : Nat} : ∀ q f, tbe T far r q = some f → tnu T r q ≠ 0
  | 0, _, h => by cases h
  | q + 1, f, h => by
    have h2 : 0 < 2 ^ q := Nat.pow_pos (by decide)
    have e1 : tnu T r (q + 1) = if tin T r q = true then tnu T r q + 2 ^ q else tnu T r q := rfl
    by_cases c : tin T r q = true
    · rw [e1, if_pos c]; omega
    · rw [e1, if_neg c]
      have e2 : tbe T far r (q + 1) = tbe T far r q := if_neg c
      rw [e2] at h
      exact tbe_0 q f h
theorem tbe_ex {T : zT} {far : Bool} {r : Nat} : ∀ q, tnu T r q ≠ 0 → ∃ f, tbe T far r q = some f
  | 0, h => absurd rfl h
  | q + 1, h => by
    have e1 : tnu T r (q + 1) = if tin T r q = true then tnu T r q + 2 ^ q else tnu T r q := rfl
    by_cases c : tin T r q = true
    · have e2 : tbe T far r (q + 1) = (match tbe T far r q with
        | none => some q
        | some f => if tbt T far q f = true then some q else some f) := if_pos c
      rw [e2]
      cases tbe T far r q with
      | none => exact ⟨q, rfl⟩
      | some f =>
        by_cases c2 : tbt T far q f = true
        · exact ⟨q, if_pos c2⟩
        · exact ⟨f, if_neg c2⟩
    · rw [e1, if_neg c] at h
      have e2 : tbe T far r (q + 1) = tbe T far r q := if_neg c
      rw [e2]; exact tbe_ex q h
/-- a bit set -/
def orb (m p : Nat) : Nat := if m / 2 ^ p % 2 = 1 then m else m + 2 ^ p
theorem orb_e : ∀ p, p < 6 → ∀ m, m < 64 → nI m ||| (nI 1 <<< (nI p &&& 31)) = nI (orb m p) ∧ orb m p < 64 := by decide +kernel
theorem orb_b : ∀ p, p < 6 → ∀ m, m < 64 → ∀ r, r < 6 → orb m p / 2 ^ r % 2 = if r = p then 1 else m / 2 ^ r % 2 := by decide +kernel
section S
variable {d : Nat} {Q : zPo} {σ : zSh} {ρ : zRf} {I F : zIm} {L : zLm} {b x : Bool} {a s t m e f : Int32} {T : zT}
theorem k_sOrder (hD : zDs T F) (hQ : ∀ F', (∀ c, c ≠ 5 → F' c = F c) → (∀ p, p < (tpn T).val → F' 5 (trk T p) = nI p) → Q none sg (rg b) (zxc I x a s t m e f F') L) : zW (d + 1) mX9_settleOrder [.ref (tc x 0)] sg (rg b) (zxc I x a s t m e f F) L Q := by
  obtain ⟨h0, h1, h2, h4, h5, h7⟩ := hD
  have hp2 : ∀ p, p ≤ (tpn T).val → ∀ F' l2 l3, (∀ c, c ≠ 5 → F' c = F c) → (∀ q, q < p → F' 5 (trk T q) = nI q) → zq d mX9_settleOrder Q 2 [some (.ref (tc x 0)), some (.int (nI p)), l2, l3] [] sg (rg b) (zxc I x a s t m e f F') L := by
    refine z_down _ (fun F' l2 l3 hk ho => ?_) (fun p hp ih F' l2 l3 hk ho => ?_)
    · rw [eX9_settleOrder_2]
      simp (disch := omega) only [bX9_settleOrder, zZ, zxcZ, hk, h0, if_pos]
      exact hQ F' hk ho
    · have hq : ∀ q, q ≤ (tpn T).val → zq d mX9_settleOrder Q 14 [some (.ref (tc x 0)), some (.int (nI p)), some (.int (nI (trq T p q))), some (.int (nI q))] [] sg (rg b) (zxc I x a s t m e f F') L := by
        refine z_down _ ?_ (fun q hq ih2 => ?_)
        · have hr := trk_lt hp
          have er : trq T p (tpn T) = trk T p := rfl
          rw [eX9_settleOrder_14, er]
          simp (disch := omega) only [bX9_settleOrder, zZ, zxcZ, hk, h0, if_pos]
          refine ih _ _ _ (fun c hc => ?_) (fun q hq => ?_)
          · rw [zup_r hc]; exact hk c hc
          · by_cases e : q = p
            · rw [e, zup_s]
            · rw [zup_k (fun e2 => e (trk_i (by omega) hp e2))]; exact ho q (by omega)
        · have hle := trq_le T p q
          rw [trq_s] at ih2
          rw [eX9_settleOrder_14]
          by_cases c1 : (thd T q).val < (thd T p).val
          · rw [if_pos c1] at ih2
            simp (disch := omega) only [bX9_settleOrder, zZ, zxcZ, hk, h0, h5, if_neg, if_pos]
            exact ih2
          · rw [if_neg c1] at ih2
            by_cases c2 : (thd T q).val = (thd T p).val
            · rw [if_pos c2] at ih2
              by_cases c3 : q < p
              · rw [if_pos c3] at ih2
                simp (disch := omega) only [bX9_settleOrder, zZ, zxcZ, hk, h0, h5, if_neg, if_pos]
                exact ih2
              · rw [if_neg c3] at ih2
                simp (disch := omega) only [bX9_settleOrder, zZ, zxcZ, hk, h0, h5, if_neg, if_pos]
                exact ih2
            · rw [if_neg c2] at ih2
              simp (disch := omega) only [bX9_settleOrder, zZ, zxcZ, hk, h0, h5, if_neg, if_pos]
              exact ih2
      rw [eX9_settleOrder_2]
      simp (disch := omega) only [bX9_settleOrder, zZ, zxcZ, hk, h0, if_neg]
      exact hq 0 (Nat.zero_le _)
  simp (disch := omega) only [nX9_settleOrder, bX9_settleOrder, zZ]
  exact hp2 0 (Nat.zero_le _) F none none (fun _ _ => rfl) (fun q hq => absurd hq (Nat.not_lt_zero q))
theorem k_sNoWorse {p : Nat} (hD : zDs T F) (hp : p < (tpn T).val) (hQ : ∀ F', (∀ c, c ≠ 2 → c ≠ 3 → c ≠ 4 → F' c = F c) → (∀ q, q ≠ p → F' 2 q = F 2 q ∧ F' 3 q = F 3 q ∧ F' 4 q = F 4 q) → F' 2 p = nI (tnw T p) → F' 3 p = nI ((tbe T false p (tpn T)).getD p) → F' 4 p = nI ((tbe T true p (tpn T)).getD p) → Q none sg (rg b) (zxc I x a s t m e f F') L) :
    zW (d + 1) mX9_settleNoWorse [.ref (tc x 0), .int (nI p)] sg (rg b) (zxc I x a s t m e f F) L Q := by
  obtain ⟨h0, h1, h2, h4, h5, h7⟩ := hD
  have hl : ∀ q, q ≤ (tpn T).val → ∀ F' l3, (∀ c, c ≠ 2 → c ≠ 3 → c ≠ 4 → F' c = F c) → (∀ q, q ≠ p → F' 2 q = F 2 q ∧ F' 3 q = F 3 q ∧ F' 4 q = F 4 q) → F' 2 p = nI (tnu T p q) → F' 3 p = nI ((tbe T false p q).getD p) → F' 4 p = nI ((tbe T true p q).getD p) →
      zq d mX9_settleNoWorse Q 23 [some (.ref (tc x 0)), some (.int (nI p)), some (.int (nI q)), l3] [] sg (rg b) (zxc I x a s t m e f F') L := by
    refine z_down _ (fun F' l3 hk ho f2 f3 f4 => ?_) (fun q hq ih F' l3 hk ho f2 f3 f4 => ?_)
    · rw [eX9_settleNoWorse_23]
      simp (disch := omega) only [bX9_settleNoWorse, zZ, zxcZ, hk, h0, if_pos]
      exact hQ F' hk ho f2 f3 f4
    · have hlt := tnu_lt T p q
      have h64 := tnu_64 T p (q := q) (by omega)
      rw [eX9_settleNoWorse_23]
      have e1 : tnu T p (q + 1) = if tin T p q = true then tnu T p q + 2 ^ q else tnu T p q := rfl
      have hn : ∀ {v2 v3 v4 : Int32}, (∀ c, c ≠ 2 → c ≠ 3 → c ≠ 4 → (zup (zup (zup F' 2 p v2) 3 p v3) 4 p v4) c = F c) ∧ (∀ q, q ≠ p → (zup (zup (zup F' 2 p v2) 3 p v3) 4 p v4) 2 q = F 2 q ∧ (zup (zup (zup F' 2 p v2) 3 p v3) 4 p v4) 3 q = F 3 q ∧ (zup (zup (zup F' 2 p v2) 3 p v3) 4 p v4) 4 q = F 4 q) := by
        intro v2 v3 v4
        refine ⟨fun c c2 c3 c4 => by rw [zup_r c4, zup_r c3, zup_r c2]; exact hk c c2 c3 c4, fun q hq => ⟨?_, ?_, ?_⟩⟩
        · rw [zup_r (by decide), zup_r (by decide), zup_k hq]; exact (ho q hq).1
        · rw [zup_r (by decide), zup_k hq, zup_r (by decide)]; exact (ho q hq).2.1
        · rw [zup_k hq, zup_r (by decide), zup_r (by decide)]; exact (ho q hq).2.2
      by_cases c : tin T p q = true
      · have c' : q ≠ p ∧ (thd T p).val ≤ (thd T q).val := of_decide_eq_true c
        rw [e1, if_pos c] at ih
        have eb : ∀ far, tbe T far p (q + 1) = (match tbe T far p q with
          | none => some q
          | some f => if tbt T far q f = true then some q else some f) := fun far => if_pos c
        have hq6 : q < 6 := by omega
        have fin : ∀ l3 v3 v4, v3 = nI ((tbe T false p (q + 1)).getD p) → v4 = nI ((tbe T true p (q + 1)).getD p) → zq d mX9_settleNoWorse Q 23 [some (.ref (tc x 0)), some (.int (nI p)), some (.int (nI (q + 1))), l3] [] sg (rg b) (zxc I x a s t m e f (zup (zup (zup F' 2 p (nI (tnu T p q + 2 ^ q))) 3 p v3) 4 p v4)) L := by
          intro l3 v3 v4 e3 e4
          refine ih _ l3 hn.1 hn.2 ?_ ?_ ?_
          · rw [zup_r (by decide), zup_r (by decide), zup_s]
          · rw [zup_r (by decide), zup_s, e3]
          · rw [zup_s, e4]
        by_cases c0 : tnu T p q = 0
        · have en : ∀ far, tbe T far p (q + 1) = some q := fun far => by rw [eb, tbe_none q c0]
          have := fin (some (.int (nI 1))) (nI q) (nI q) (by rw [en]; rfl) (by rw [en]; rfl)
          rw [c0] at f2 this
          have bo := b_or q hq6 0 (Nat.pow_pos (by decide))
          simp (disch := omega) only [bX9_settleNoWorse, zZ, zxcZ, hk, h0, h5, f2, bo, if_neg, if_pos]
          exact this
        · obtain ⟨g1, hg1⟩ := tbe_ex (far := false) q c0
          obtain ⟨g2, hg2⟩ := tbe_ex (far := true) q c0
          have l1 := (tbe_lt T false p q g1 hg1).1
          have l2 := (tbe_lt T true p q g2 hg2).1
          have f3' : F' 3 p = nI g1 := by rw [f3, hg1]; rfl
          have f4' : F' 4 p = nI g2 := by rw [f4, hg2]; rfl
          have bo := b_or q hq6 (tnu T p q) hlt
          have e3 : tbe T false p (q + 1) = if (thd T q).val < (thd T g1).val then some q else some g1 := by
            rw [eb, hg1]; show (if tbt T false q g1 = true then _ else _) = _
            by_cases z : (thd T q).val < (thd T g1).val
            · rw [if_pos z, if_pos (show tbt T false q g1 = true from decide_eq_true z)]
            · rw [if_neg z, if_neg (fun w : tbt T false q g1 = true => z (of_decide_eq_true w))]
          have e4 : tbe T true p (q + 1) = if (thd T g2).val < (thd T q).val then some q else some g2 := by
            rw [eb, hg2]; show (if tbt T true q g2 = true then _ else _) = _
            by_cases z : (thd T g2).val < (thd T q).val
            · rw [if_pos z, if_pos (show tbt T true q g2 = true from decide_eq_true z)]
            · rw [if_neg z, if_neg (fun w : tbt T true q g2 = true => z (of_decide_eq_true w))]
          have M3 : ∀ v, zup (zup F' 2 p v) 3 p (nI g1) = zup F' 2 p v := fun v => zup_id (by rw [zup_r (by decide)]; exact f3')
          have M4 : ∀ v w, zup (zup (zup F' 2 p v) 3 p w) 4 p (nI g2) = zup (zup F' 2 p v) 3 p w := fun v w => zup_id (by rw [zup_r (by decide), zup_r (by decide)]; exact f4')
          have M4' : ∀ v, zup (zup F' 2 p v) 4 p (nI g2) = zup F' 2 p v := fun v => zup_id (by rw [zup_r (by decide)]; exact f4')
          by_cases z1 : (thd T q).val < (thd T g1).val
          · rw [if_pos z1] at e3
            by_cases z2 : (thd T g2).val < (thd T q).val
            · rw [if_pos z2] at e4
              have := fin (some (.int (nI 0))) (nI q) (nI q) (by rw [e3]; rfl) (by rw [e4]; rfl)
              simp (disch := omega) only [bX9_settleNoWorse, zZ, zxcZ, hk, h0, h5, f2, bo, f3', f4', zup_r, if_neg, if_pos]
              exact this
            · rw [if_neg z2] at e4
              have := fin (some (.int (nI 0))) (nI q) (nI g2) (by rw [e3]; rfl) (by rw [e4]; rfl)
              rw [M4] at this
              simp (disch := omega) only [bX9_settleNoWorse, zZ, zxcZ, hk, h0, h5, f2, bo, f3', f4', zup_r, if_neg, if_pos]
              exact this
          · rw [if_neg z1] at e3
            by_cases z2 : (thd T g2).val < (thd T q).val
            · rw [if_pos z2] at e4
              have := fin (some (.int (nI 0))) (nI g1) (nI q) (by rw [e3]; rfl) (by rw [e4]; rfl)
              rw [M3] at this
              simp (disch := omega) only [bX9_settleNoWorse, zZ, zxcZ, hk, h0, h5, f2, bo, f3', f4', zup_r, if_neg, if_pos]
              exact this
            · rw [if_neg z2] at e4
              have := fin (some (.int (nI 0))) (nI g1) (nI g2) (by rw [e3]; rfl) (by rw [e4]; rfl)
              rw [M4, M3] at this
              simp (disch := omega) only [bX9_settleNoWorse, zZ, zxcZ, hk, h0, h5, f2, bo, f3', f4', zup_r, if_neg, if_pos]
              exact this
      · have c' : ¬ (q ≠ p ∧ (thd T p).val ≤ (thd T q).val) := fun q2 => c (decide_eq_true q2)
        rw [e1, if_neg c] at ih
        have eb : ∀ far, tbe T far p (q + 1) = tbe T far p q := fun far => if_neg c
        rw [eb, eb] at ih
        have := ih F' l3 hk ho f2 f3 f4
        by_cases c1 : q = p
        · simp (disch := omega) only [bX9_settleNoWorse, zZ, zxcZ, hk, h0, if_neg, if_pos]
          exact this
        · have c2 : (thd T q).val < (thd T p).val := by omega
          simp (disch := omega) only [bX9_settleNoWorse, zZ, zxcZ, hk, h0, h5, if_neg, if_pos]
          exact this
  have hz := tnu_lt T p 0
  simp (disch := omega) only [nX9_settleNoWorse, bX9_settleNoWorse, zZ, zxcZ]
  refine hl 0 (Nat.zero_le _) _ none (fun c c2 c3 c4 => by rw [zup_r c4, zup_r c3, zup_r c2]) (fun q hq => ⟨?_, ?_, ?_⟩) ?_ ?_ ?_
  · rw [zup_r (by decide), zup_r (by decide), zup_k hq]
  · rw [zup_r (by decide), zup_k hq, zup_r (by decide)]
  · rw [zup_k hq, zup_r (by decide), zup_r (by decide)]
  · rw [zup_r (by decide), zup_r (by decide), zup_s]; rfl
  · rw [zup_r (by decide), zup_s]; rfl
  · rw [zup_s]; rfl
end S

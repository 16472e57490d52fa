/-! what stands when both objects are made is both halves of nothing told -/
theorem sg_98 : ∀ a, 98 ≤ a → sg.2 a = (0, 0) := by
  intro a ha
  show sgl.getD a (0, 0) = _
  have hl : sgl.length ≤ a := Nat.le_trans (by decide +kernel : sgl.length ≤ 98) ha
  rw [List.getD_eq_getElem?_getD, List.getElem?_eq_none hl]; rfl
theorem gs_sg : gs43 = sg := by
  have h1 : gs43.1 = sg.1 := by decide +kernel
  have h2 : gs43.2 = sg.2 := by
    funext a
    by_cases c : a < 98
    · have : ∀ a, a < 98 → gs43.2 a = sg.2 a := by decide +kernel
      exact this a c
    · rw [sg_98 a (by omega)]
      exact pS43 a (by have : gs43.1 = 98 := by decide +kernel
                       omega)
  exact Prod.ext h1 h2
theorem getD_g {l : List (Option Nat)} {j : Nat} (h : l.length ≤ j) : l.getD j none = none := by
  rw [List.getD_eq_getElem?_getD, List.getElem?_eq_none h]; rfl
theorem rgt_p {t c j : Nat} (h : 21 ≤ j) : rgt t c j = none := by
  unfold rgt; split
  · exact getD_g (Nat.le_trans (show _ ≤ 15 from Nat.le_of_ble_eq_true rfl) (by omega))
  · rw [if_neg (by omega)]
  · rw [if_neg (by omega)]
  · rw [if_neg (by omega)]
  · rfl
theorem rgs_p {t j : Nat} (h : 21 ≤ j) : rgs t j = none := getD_g (Nat.le_trans (show _ ≤ 9 from Nat.le_of_ble_eq_true rfl) (by omega))
theorem rg_p : zPr (rg false) := by
  intro a j h
  rcases h with h | h
  · unfold rg
    rw [if_neg (by omega), if_neg (by omega), if_neg (by omega)]
    split <;> first | rfl | omega
  · unfold rg
    split
    · exact rgt_p h
    · split
      · exact rgt_p h
      · split
        · exact rgs_p h
        · split
          · exact getD_g (Nat.le_trans (show _ ≤ 9 from Nat.le_of_ble_eq_true rfl) (by omega))
          · rw [if_neg (by omega)]
          · exact getD_g (Nat.le_trans (show _ ≤ 2 from Nat.le_of_ble_eq_true rfl) (by omega))
          · exact getD_g (Nat.le_trans (show _ ≤ 4 from Nat.le_of_ble_eq_true rfl) (by omega))
          · rw [if_neg (by omega)]
          · exact getD_g (Nat.le_trans (show _ ≤ 20 from Nat.le_of_ble_eq_true rfl) (by omega))
          · rfl
theorem gr_rg : gr70 = rg false := by
  funext a j
  by_cases c : a < 98 ∧ j < 21
  · have : ∀ a, a < 98 → ∀ j, j < 21 → gr70 a j = rg false a j := by decide +kernel
    exact this a c.1 j c.2
  · rw [rg_p a j (by omega)]; exact pR70 a j (by omega)
theorem gRl : zRl false gi45 gl43 := by
  have hz4 : ∀ k, k < 4 → gi45 91 (2 + k) = nI 0 ∧ gi45 91 (6 + k) = nI 0 ∧ gi45 (sc 0 1) k = nI 0 ∧ gi45 (sc 0 2) k = nI 0 := by decide +kernel
  refine ⟨dT zD0, zS0 0, fun _ => 0, 0, nI 1, ⟨zD0_w.1, ⟨by decide +kernel, by decide +kernel, by decide +kernel, fun p hp => absurd hp (Nat.not_lt_zero p), fun k hk => absurd hk (Nat.not_lt_zero k), fun k hk => absurd hk (Nat.not_lt_zero k), fun k hk => absurd hk (Nat.not_lt_zero k)⟩, ⟨⟨by decide +kernel, by decide +kernel, by decide +kernel, by decide +kernel, fun p hp => absurd hp (Nat.not_lt_zero p)⟩, fun p hp => absurd hp (Nat.not_lt_zero p), fun p hp => absurd hp (Nat.not_lt_zero p), fun k hk => absurd hk (Nat.not_lt_zero k)⟩⟩, ⟨⟨fun h => absurd h (Nat.not_lt_zero 0), fun k hk => absurd hk (Nat.not_lt_zero k), fun k _ => (by decide : (0 : Nat) < 5)⟩, ⟨by decide +kernel, by decide +kernel, fun k hk => (hz4 k hk).1, fun k hk => (hz4 k hk).2.1, by decide +kernel, fun i hi => absurd hi (Nat.not_lt_zero i), fun i hi => absurd hi (Nat.not_lt_zero i), fun i hi => absurd hi (Nat.not_lt_zero i)⟩, ⟨⟨by decide +kernel, by decide +kernel, by decide +kernel, by decide +kernel⟩, fun k hk => (hz4 k hk).2.2, fun i hi => absurd hi (Nat.not_lt_zero i)⟩, by decide +kernel⟩, ⟨⟨Nat.zero_le _, by decide +kernel, fun k hk => absurd hk (Nat.not_lt_zero k)⟩, ⟨Nat.zero_le _, by decide +kernel, fun k hk => absurd hk (Nat.not_lt_zero k)⟩⟩, ⟨Or.inl ⟨by decide +kernel, by decide +kernel⟩, Or.inl ⟨by decide +kernel, by decide +kernel⟩⟩, by decide +kernel⟩

/-! THE LAW from its first instruction: both objects are made, then the loop -/
section ZT
variable {N : Nat} {xs : Nat → Int32} {d : Nat} {Q : zPo}
theorem yM_57 : zMs[57]? = some mX10_init := rfl
theorem yT_N7 : zN 12 7 = some 10 := by decide +kernel
theorem yT_N10 : zN 12 10 = some 11 := by decide +kernel
theorem yT_O9 : zO 12 9 = false := by decide +kernel
theorem yT_O12 : zO 12 12 = false := by decide +kernel
theorem yT_I9 : zI 12 9 = some (0, 57, 0) := by decide +kernel
theorem yT_I12 : zI 12 12 = some (0, 86, 0) := by decide +kernel
set_option maxRecDepth 20000 in
theorem ltt_0 : zu (some (N, xs)) (d + 4) mL_law Q 0 0 0 [some (.ref 7000), none, none, none] [] gs0 gr0 gi0 gl0 = zu (some (N, xs)) (d + 4) mL_law Q 1 9 3 [some (.ref 7000), none, none, none] [.ref 0] gs1 gr1 gi1 gl1 := ol_new (ci := 10) (n := 9) (σ := gs0) dL_law_0 yT_N7 rfl (Nat.le_of_ble_eq_true rfl) (Nat.le_of_ble_eq_true rfl) (Nat.le_of_ble_eq_true rfl) (Nat.le_of_ble_eq_true rfl)
set_option maxRecDepth 20000 in
theorem ltt_3 : zu (some (N, xs)) (d + 4) mL_law Q 1 9 3 [some (.ref 7000), none, none, none] [.ref 0] gs1 gr1 gi1 gl1 = zu (some (N, xs)) (d + 4) mL_law Q 1 9 4 [some (.ref 7000), none, none, none] [.ref 0, .ref 0] gs1 gr1 gi1 gl1 := ol_dup dL_law_3 rfl
set_option maxRecDepth 20000 in
theorem ltt_4 : zu (some (N, xs)) (d + 4) mL_law Q 1 9 4 [some (.ref 7000), none, none, none] [.ref 0, .ref 0] gs1 gr1 gi1 gl1 = zu (some (N, xs)) (d + 4) mL_law Q 87 673 7 [some (.ref 7000), none, none, none] [.ref 0] gs32 gr49 gi32 gl32 :=
  (ol_sp (cm := mX10_init) (k := 0) (mi := 57) (md := 0) (a := 0) (as := []) (r := [.ref 0]) dL_law_4 yT_O9 yT_I9 rfl rfl (Nat.le_of_ble_eq_true rfl) (Nat.le_of_ble_eq_true rfl) yM_57 (Nat.le_of_ble_eq_true rfl) (Nat.le_of_ble_eq_true rfl) (Nat.le_of_ble_eq_true rfl)).trans w10
set_option maxRecDepth 20000 in
theorem ltt_7 : zu (some (N, xs)) (d + 4) mL_law Q 87 673 7 [some (.ref 7000), none, none, none] [.ref 0] gs32 gr49 gi32 gl32 = zu (some (N, xs)) (d + 4) mL_law Q 87 673 8 [some (.ref 7000), some (.ref 0), none, none] [] gs32 gr49 gi32 gl32 := ol_astore_n dL_law_7 (Nat.le_of_ble_eq_true rfl) rfl
set_option maxRecDepth 20000 in
theorem ltt_8 : zu (some (N, xs)) (d + 4) mL_law Q 87 673 8 [some (.ref 7000), some (.ref 0), none, none] [] gs32 gr49 gi32 gl32 = zu (some (N, xs)) (d + 4) mL_law Q 88 693 11 [some (.ref 7000), some (.ref 0), none, none] [.ref 87] gs33 gr50 gi33 gl33 := ol_new (ci := 11) (n := 20) (σ := gs32) dL_law_8 yT_N10 rfl (Nat.le_of_ble_eq_true rfl) (Nat.le_of_ble_eq_true rfl) (Nat.le_of_ble_eq_true rfl) (Nat.le_of_ble_eq_true rfl)
set_option maxRecDepth 20000 in
theorem ltt_11 : zu (some (N, xs)) (d + 4) mL_law Q 88 693 11 [some (.ref 7000), some (.ref 0), none, none] [.ref 87] gs33 gr50 gi33 gl33 = zu (some (N, xs)) (d + 4) mL_law Q 88 693 12 [some (.ref 7000), some (.ref 0), none, none] [.ref 87, .ref 87] gs33 gr50 gi33 gl33 := ol_dup dL_law_11 rfl
set_option maxRecDepth 20000 in
theorem ltt_12 : zu (some (N, xs)) (d + 4) mL_law Q 88 693 12 [some (.ref 7000), some (.ref 0), none, none] [.ref 87, .ref 87] gs33 gr50 gi33 gl33 = zu (some (N, xs)) (d + 4) mL_law Q 98 8607 15 [some (.ref 7000), some (.ref 0), none, none] [.ref 87] gs43 gr70 gi45 gl43 :=
  (ol_sp (cm := mX11_init) (k := 0) (mi := 86) (md := 0) (a := 87) (as := []) (r := [.ref 87]) dL_law_12 yT_O12 yT_I12 rfl rfl (Nat.le_of_ble_eq_true rfl) (Nat.le_of_ble_eq_true rfl) rfl (Nat.le_of_ble_eq_true rfl) (Nat.le_of_ble_eq_true rfl) (Nat.le_of_ble_eq_true rfl)).trans w11
set_option maxRecDepth 20000 in
theorem ltt_15 : zu (some (N, xs)) (d + 4) mL_law Q 98 8607 15 [some (.ref 7000), some (.ref 0), none, none] [.ref 87] gs43 gr70 gi45 gl43 = zlw N xs (d + 4) Q 16 [some (.ref 7000), some (.ref 0), some (.ref 87), none] [] gs43 gr70 gi45 gl43 := ol_astore_n dL_law_15 (Nat.le_of_ble_eq_true rfl) rfl
theorem law_run (hN : N ≤ 2048) (hQ : ∀ σ ρ I L, Q (some (.int (nI 1))) σ ρ I L) : zu (some (N, xs)) (d + 20) mL_law Q 0 0 0 [some (.ref 7000), none, none, none] [] gs0 gr0 gi0 gl0 := by
  rw [ltt_0 (d := d + 16), ltt_3 (d := d + 16), ltt_4 (d := d + 16), ltt_7 (d := d + 16), ltt_8 (d := d + 16), ltt_11 (d := d + 16), ltt_12 (d := d + 16), ltt_15 (d := d + 16), eL_16, eL_17, gs_sg, gr_rg]
  exact lw_loop hN hQ N 0 false _ _ (by omega) (by omega) gRl
end ZT

/-! THE LAW'S START: what the tables and the constants give -/
theorem zarc {s : State} {args : Array Value} {ty : FieldType} (h : (Cond.arrayClass ty).before args s = true) : ∃ cA : ClassId, s.vm.findClass ("[" ++ ty.toString) = some cA ∧ ArrOfT s cA ty := by
  obtain ⟨c, k, comp, h1, h2, h3⟩ := Cond.arrayClass_spec h
  exact ⟨c, h1, fun n z => ⟨fun k h => (by cases h), k, h2, comp, h3⟩⟩
theorem zaro {s : State} {args : Array Value} {C : String} (h : (Cond.arrayOver (.object C)).before args s = true) : ∃ cA : ClassId, ArrOfT s cA (.object C) ∧ va_RA s cA (.object C) := by
  obtain ⟨comp, c, k, h1, -, h3, h4, h5⟩ := Cond.arrayOver_spec h
  exact ⟨c, fun n z => ⟨fun k h => (by cases h), k, h3, comp, h4⟩, k, comp, h3, h4, h1, h5⟩
theorem zara {s : State} {args : Array Value} {ty : FieldType} (h : (Cond.arrayOver (.array ty)).before args s = true) : ∃ cA : ClassId, ArrOfT s cA (.array ty) ∧ va_RA s cA (.array ty) := by
  obtain ⟨comp, c, k, -, h3, h4, h5⟩ := Cond.arrayOver_specA h
  exact ⟨c, fun n z => ⟨fun k h => (by cases h), k, h3, comp, h4⟩, h5⟩
theorem zinst : ∀ kd, kd < 12 → ∀ r, vwCl[kd]? = some r → Cond.instantiable r.1 r.2.2 ∈ lw_tbl := by
  have h : (List.range 12).all (fun kd => match vwCl[kd]? with | none => false | some r => decide (Cond.instantiable r.1 r.2.2 ∈ lw_tbl)) = true := by decide +kernel
  rw [List.all_eq_true] at h
  intro kd hkd r hr
  have h1 := h kd (List.mem_range.mpr hkd)
  rw [hr, decide_eq_true_eq] at h1
  exact h1
theorem zcastw : ∀ k, 1 ≤ k → k ≤ 5 → Cond.castable (zR0 k) RX6 ∈ lw_tbl := by
  have h : (List.range 6).all (fun k => k == 0 || decide (Cond.castable (zR0 k) RX6 ∈ lw_tbl)) = true := by decide +kernel
  rw [List.all_eq_true] at h
  intro k h1 h5
  have h2 := h k (List.mem_range.mpr (by omega))
  rw [Bool.or_eq_true, beq_iff_eq, decide_eq_true_eq] at h2
  exact h2.resolve_left (by omega)
theorem zstrw : ∀ i, i < 4 → Cond.stringRef RX8 (zki.getD i 0) (ztx.getD i "") ∈ lw_tbl := by decide +kernel
theorem zstat0 : Cond.laysStatic RJ0 "COMPACT_STRINGS" "Z" ∈ lw_tbl ∧ Cond.initialized RJ0 ∈ lw_tbl := by decide +kernel
theorem zstat3 : Cond.laysStatic RJ3 "SIOOBE_FORMATTER" "Ljava/util/function/BiFunction;" ∈ lw_tbl ∧ Cond.initialized RJ3 ∈ lw_tbl := by decide +kernel
theorem zarrw : Cond.arrayClass .int ∈ lw_tbl ∧ Cond.arrayClass .boolean ∈ lw_tbl ∧ Cond.arrayClass .long ∈ lw_tbl ∧ Cond.arrayOver (.object RX7) ∈ lw_tbl ∧ Cond.arrayOver (.object RX6) ∈ lw_tbl ∧ Cond.arrayOver (.array .int) ∈ lw_tbl := by decide +kernel
/-- what the Statement gives of the String constants, by their places -/
def ztm (i : Nat) : Term := .string RX8 (zki.getD i 0)
theorem zg_s : ∀ i, i < 4 → (Cond.exactly (ztm i) "java/lang/String") ∈ flatC (Jvm.Cond.and given_1 narrow_1) ∧ (Cond.eq (.field (ztm i) "java/lang/String" "coder" "B") (.int 0)) ∈ flatC (Jvm.Cond.and given_1 narrow_1) ∧ (Cond.arrayOf (.field (ztm i) "java/lang/String" "value" "[B") .byte) ∈ flatC (Jvm.Cond.and given_1 narrow_1) ∧ (Cond.eq (.length (.field (ztm i) "java/lang/String" "value" "[B")) (.int (Int32.ofNat (zlen.getD i 0)))) ∈ flatC (Jvm.Cond.and given_1 narrow_1) := by decide +kernel
theorem zg_e : ∀ i, i < 4 → ∀ j, j < zlen.getD i 0 → (Cond.eq (.elem (.field (ztm i) "java/lang/String" "value" "[B") (.int (Int32.ofNat j))) (.int ((zbyt.getD i []).getD j 0))) ∈ flatC (Jvm.Cond.and given_1 narrow_1) := by decide +kernel
theorem zg_n : ∀ i, i < 4 → ∀ j, j < 4 → i ≠ j → (Cond.not (Cond.eq (ztm i) (ztm j))) ∈ flatC (Jvm.Cond.and given_1 narrow_1) ∨ (Cond.not (Cond.eq (ztm j) (ztm i))) ∈ flatC (Jvm.Cond.and given_1 narrow_1) := by decide +kernel
theorem zg_c : (Cond.eq (.static RJ0 "COMPACT_STRINGS" "Z") (.int 1)) ∈ flatC (Jvm.Cond.and given_1 narrow_1) ∧ (Cond.isRef (.static RJ3 "SIOOBE_FORMATTER" "Ljava/util/function/BiFunction;")) ∈ flatC (Jvm.Cond.and given_1 narrow_1) := by decide +kernel
theorem zlen_s : ∀ i, i < 4 → zlen.getD i 0 < 2 ^ 31 := by decide
def zGc (c20 c21 c22 c23 c24 c25 : ClassId) (kd : Nat) : ClassId := match kd with
  | 20 => c20
  | 21 => c21
  | 22 => c22
  | 23 => c23
  | 24 => c24
  | _ => c25
theorem zE_at {s : State} {b : Nat} (hts : ∀ w ∈ lw_tbl, w.before #[Value.ref b] s = true) (hgv : (Jvm.Cond.and given_1 narrow_1).before #[Value.ref b] s = true) : ∃ E : zE, E.1 = s.heap.size ∧ E.2.2.2.1 = b ∧ zEv E s s.heap := by
  have hg := flat_of_before _ hgv
  have hts2 : ∀ w ∈ zTG, w.before #[Value.ref b] s = true := fun w hw => hts w (List.mem_filter.mp hw).1
  have hA : ∀ a : Nat, a < s.heap.size → ¬ (fun q : Nat => s.heap.size ≤ q) a := fun a h1 h2 => Nat.lt_irrefl _ (Nat.lt_of_lt_of_le h1 h2)
  -- classes
  have hk : ∀ kd : Nat, ∃ x : ClassId × (Nat → Nat), ∀ q, vwCl[kd]? = some q → u_Kn s q.1 q.2.1 q.2.2 x.1 x.2 := by
    intro kd
    by_cases h : kd < 12
    · obtain ⟨r, hr, -⟩ := zcl_row h
      obtain ⟨c, i, hc⟩ := u_known hts2 (zuw_ok kd h r hr) (hts _ (zinst kd h r hr))
      exact ⟨(c, i), fun q hq => by cases hr.symm.trans hq; exact hc⟩
    · exact ⟨(0, fun _ => 0), fun q hq => absurd (List.getElem?_eq_some_iff.mp hq).1 h⟩
  obtain ⟨G, hG⟩ := Classical.axiomOfChoice hk
  -- arrays
  obtain ⟨c20, g20, a20⟩ := zarc (hts _ zarrw.1)
  obtain ⟨c21, g21, a21⟩ := zarc (hts _ zarrw.2.1)
  obtain ⟨c22, g22, a22⟩ := zarc (hts _ zarrw.2.2.1)
  obtain ⟨c23, a23, g23⟩ := zaro (hts _ zarrw.2.2.2.1)
  obtain ⟨c24, a24, g24⟩ := zaro (hts _ zarrw.2.2.2.2.1)
  obtain ⟨c25, a25, g25⟩ := zara (hts _ zarrw.2.2.2.2.2)
  -- constants
  obtain ⟨adK, adV, hS, hev⟩ := vk_Sof (args := #[Value.ref b]) (s := s) (N := 4) (tm := ztm) (len := zlen) (byt := zbyt) (A := fun q : Nat => s.heap.size ≤ q) zlen_s (fun i hi => hg _ (zg_s i hi).1) (fun i hi => hg _ (zg_s i hi).2.1) (fun i hi => hg _ (zg_s i hi).2.2.1) (fun i hi => hg _ (zg_s i hi).2.2.2) (fun i hi j hj => hg _ (zg_e i hi j hj)) (fun i j hi hj hij => (zg_n i hi j hj hij).imp (hg _) (hg _)) hA
  obtain ⟨fm, hfm, hfr⟩ := Cond.isRef_spec (hg _ zg_c.2)
  have hfc : fm.category = 1 := by cases fm <;> first | rfl | (simp [Value.isRef] at hfr)
  refine ⟨(s.heap.size, adK, adV, b, fm, (fun k => (G k).1, fun k => (G k).2), zGc c20 c21 c22 c23 c24 c25), rfl, rfl, ⟨fun c q hq => hG c q hq, ?_⟩, hS, ?_, ?_, ?_, hfc, ?_, hts _ zarrw.2.2.2.1, hts _ zarrw.2.2.2.2.1, ?_, ?_⟩
  · intro k q hq
    unfold zty at hq
    rw [List.getElem?_map] at hq
    have h6 : k < 6 := by
      rcases Nat.lt_or_ge k 6 with h | h
      · exact h
      · rw [List.getElem?_eq_none (by simpa using h)] at hq; cases hq
    have hq2 : (zGc c20 c21 c22 c23 c24 c25 (20 + k), zaty (20 + k)) = q := by
      rw [List.getElem?_range h6] at hq
      exact Option.some.inj hq
    subst hq2
    rcases (show k = 0 ∨ k = 1 ∨ k = 2 ∨ k = 3 ∨ k = 4 ∨ k = 5 by omega) with rfl | rfl | rfl | rfl | rfl | rfl
    · exact ⟨a20, g20⟩
    · exact ⟨a21, g21⟩
    · exact ⟨a22, g22⟩
    · exact ⟨a23, g23⟩
    · exact ⟨a24, g24⟩
    · exact ⟨a25, g25⟩
  · intro i hi
    refine vk_R.of (A := #[Value.ref b]) (hts _ (zstrw i hi)) ?_
    exact hev i hi
  · exact va_Zof (hts _ zstat0.1) (hts _ zstat0.2) (va_eqt (hg _ zg_c.1)) hA
  · exact va_Zof (hts _ zstat3.1) (hts _ zstat3.2) hfm hA
  · intro j i y h
    exact va_Nw.of rfl (hts _ h)
  · have h := hts _ zarrw.2.2.2.2.2
    unfold zAOA
    unfold Cond.before Cond.holds at h ⊢
    simp only [Cond.value] at h ⊢
    exact h
  · intro k h1 h5
    exact va_Nw.of rfl (hts _ (zcastw k h1 h5))

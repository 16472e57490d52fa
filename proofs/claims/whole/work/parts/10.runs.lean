/-! arraycopy, texts, the script, constants; the start and the end of a method; calls -/
section ZI
variable {p : Program} {l : Launch} {e : Env} {R : Room} {s : State} {m : MethodId} {args : Array Value} {below : List Frame} {meth : Method} {c : Code} {H : Heap} {locs : List Loc} {cells slots : Nat} {Qe : State → Prop}
variable {E : zE} {mm : zM} {d : Nat} {σ : zSh} {ρ : zRf} {I : zIm} {L : zLm} {pc : Nat} {lsr : Array Slot} {rest : List Value}
theorem zr_cpy (C : zCx p R s m args meth c E mm d) (hP : zP E σ ρ I L H) (hS : va_S (zAd E) s.heap H locs) (hls : lsr.size = mm.2.2.1) {n dp sp : Int32} {sa da : Nat} (hj : mm.2.2.2.2.1 = 0) (hs : sa < σ.1) (hda : da < σ.1) (ks : (σ.2 sa).1 = 20) (kd : (σ.2 da).1 = 20) (h1 : ¬ sp < 0) (h2 : ¬ dp < 0) (h3 : ¬ n < 0) (h4 : sp.toNatClampNeg + n.toNatClampNeg ≤ (σ.2 sa).2) (h5 : dp.toNatClampNeg + n.toNatClampNeg ≤ (σ.2 da).2) (hr : (rest.map fun v => v.category).sum ≤ 8) (hd : decode mm.2.1 pc = .ok (.invokestatic 44, 3))
    (kk : ∀ (H1 : Heap) (locs1 : List Loc), zP E σ ρ (fun a j => if a = da then va_cpy (I sa) (I da) sp.toNatClampNeg dp.toNatClampNeg n.toNatClampNeg j else I a j) L H1 → va_S (zAd E) s.heap H1 locs1 → W p l e R s m args below meth c H1 locs1 cells slots Qe (F0 m (pc + 3) lsr rest)) : W p l e R s m args below meth c H locs cells slots Qe (F0 m pc lsr (.int n :: .int dp :: .ref (zad E da) :: .int sp :: .ref (zad E sa) :: rest)) := by
  obtain ⟨hx, hb, hml, hown, hts, -, hEv, hfr, hlo, -, -⟩ := C
  obtain ⟨w1, w2, w3, w4⟩ := zC_w
  rw [hj] at hown
  have nn : ∀ z : Int32, ¬ z < 0 → z.toInt = (z.toNatClampNeg : Int) := by
    intro z hz
    have hz0 : (0 : Int) ≤ z.toInt := by
      have := Int32.not_lt.mp hz
      simpa using Int32.le_iff_toInt_le.mp this
    show z.toInt = ((z.toInt.toNat : Nat) : Int)
    omega
  obtain ⟨-, hc0⟩ := hP.arr hs ks (by omega)
  obtain ⟨-, hc1⟩ := hP.arr hda kd (by omega)
  have hc0 : H[zad E sa]? = some (vp_cell (E.2.2.2.2.2.2 20) ((σ.2 sa).2, .inl (I sa))) := hc0
  have hc1 : H[zad E da]? = some (vp_cell (E.2.2.2.2.2.2 20) ((σ.2 da).2, .inl (I da))) := hc1
  obtain ⟨hAr, -⟩ := hEv.1.2 _ _ (zty_at E (kd := 20) (by omega) (by omega))
  obtain ⟨-, k0, hk0, cm0, hkk0⟩ := hAr (σ.2 sa).2 (fun j => .int (I sa j))
  obtain ⟨-, k1, hk1, cm1, hkk1⟩ := hAr (σ.2 da).2 (fun j => .int (I da j))
  intro T hT X
  obtain ⟨vm', X', step⟩ := X.arraycopy hx hown (hts _ (zTG_in w1 rfl)) (hts _ (zTG_in w2 rfl)) (hts _ (zTG_in w3 rfl)) (hts _ (zTG_in w4 rfl)) (src := zad E sa) (dst := zad E da) (cs := vp_cell (E.2.2.2.2.2.2 20) ((σ.2 sa).2, .inl (I sa))) (cd := vp_cell (E.2.2.2.2.2.2 20) ((σ.2 da).2, .inl (I da))) (srcPos := sp) (destPos := dp) (n := n) (by rw [hT]; exact hc0) (by rw [hT]; exact hc1)
    (fun _ h => by cases h) (fun _ h => by cases h) (fun h => by cases h) (fun h => by cases h) hk0 hk1 hkk0 hkk1 (by simp [refKind, zaty]) h1 h2 h3
    (by rw [nn sp h1, nn n h3]; show ¬ _ > ((arrV (E.2.2.2.2.2.2 20) (σ.2 sa).2 (fun j => .int (I sa j))).slots.size : Int); rw [arrV_size]; omega)
    (by rw [nn dp h2, nn n h3]; show ¬ _ > ((arrV (E.2.2.2.2.2.2 20) (σ.2 da).2 (fun j => .int (I da j))).slots.size : Int); rw [arrV_size]; omega)
    (fun vm₁ _ i hi => by
      have e : (vp_cell (E.2.2.2.2.2.2 20) ((σ.2 sa).2, .inl (I sa))).slots.getD (sp.toNatClampNeg + i) .null = .int (I sa (sp.toNatClampNeg + i)) := by
        show (arrV (E.2.2.2.2.2.2 20) (σ.2 sa).2 (fun j => .int (I sa j))).slots.getD _ _ = _
        rw [Array.getD_eq_getD_getElem?, arrV_read _ _ (by omega)]
        rfl
      refine ⟨?_, ?_⟩
      · rw [e]
        rfl
      · rw [e]
        exact trivial)
    (g := F0 m pc lsr (.int n :: .int dp :: .ref (zad E da) :: .int sp :: .ref (zad E sa) :: rest)) rfl (by rw [hml]; exact hls) (rest := rest) rfl (by rw [hb]; exact hd) (by omega) (by
      show 2 * 0 + _ + _ ≤ _
      have : nativeFrameWords "java/lang/System" "arraycopy" 5 + 11 ≤ 72 := by decide +kernel
      omega)
  have e1 : copied (vp_cell (E.2.2.2.2.2.2 20) ((σ.2 sa).2, .inl (I sa))) (vp_cell (E.2.2.2.2.2.2 20) ((σ.2 da).2, .inl (I da))) sp dp n = vp_cell (E.2.2.2.2.2.2 20) ((σ.2 da).2, .inl (va_cpy (I sa) (I da) sp.toNatClampNeg dp.toNatClampNeg n.toNatClampNeg)) := va_copied (fun z => .int z) _ _ (I sa) (I da) h4
  rw [e1] at X' step
  have hl : zad E da < H.size := (Array.getElem?_eq_some_iff.mp hc1).1
  have hheap : ((T.setVm vm').setCell (zad E da) (vp_cell (E.2.2.2.2.2.2 20) ((σ.2 da).2, .inl (va_cpy (I sa) (I da) sp.toNatClampNeg dp.toNatClampNeg n.toNatClampNeg)))).heap = H.setIfInBounds (zad E da) (vp_cell (E.2.2.2.2.2.2 20) ((σ.2 da).2, .inl (va_cpy (I sa) (I da) sp.toNatClampNeg dp.toNatClampNeg n.toNatClampNeg))) := by rw [← hT]; rfl
  generalize hH1 : H.setIfInBounds (zad E da) (vp_cell (E.2.2.2.2.2.2 20) ((σ.2 da).2, .inl (va_cpy (I sa) (I da) sp.toNatClampNeg dp.toNatClampNeg n.toNatClampNeg))) = H1 at hheap
  have oq : ∀ q : Nat, q ≠ zad E da → H1[q]? = H[q]? := fun q hq => by rw [← hH1]; simp [Array.getElem?_setIfInBounds, Ne.symm hq]
  have e2 : H1[zad E da]? = some (vp_cell (E.2.2.2.2.2.2 20) ((σ.2 da).2, .inl (va_cpy (I sa) (I da) sp.toNatClampNeg dp.toNatClampNeg n.toNatClampNeg))) := by rw [← hH1]; simp [Array.getElem?_setIfInBounds, hl]
  have z1 : H1.size = H.size := by rw [← hH1]; simp
  have hAa : zAd E (zad E da) := by rw [hP.adr hda]; exact Nat.le_add_right _ _
  have hP' : zP E σ ρ (fun a j => if a = da then va_cpy (I sa) (I da) sp.toNatClampNeg dp.toNatClampNeg n.toNatClampNeg j else I a j) L H1 := by
    rw [hP.adr hda] at e2 oq
    refine hP.put z1 oq (Or.inr ⟨by omega, by omega, ?_⟩) (fun _ _ _ => rfl) (fun c k hc => if_neg hc) (fun _ _ _ => rfl)
    rw [e2, kd, vp_cell_i]
    refine congrArg (fun f => some (arrV (E.2.2.2.2.2.2 20) (σ.2 da).2 f)) (funext fun j => ?_)
    have h9 : (fun a j => if a = da then va_cpy (I sa) (I da) sp.toNatClampNeg dp.toNatClampNeg n.toNatClampNeg j else I a j) da j = va_cpy (I sa) (I da) sp.toNatClampNeg dp.toNatClampNeg n.toNatClampNeg j := if_pos rfl
    unfold zav
    rw [if_neg (by decide), if_pos (by decide), h9]
  obtain ⟨t, a1, b1⟩ := kk H1 (locs ++ _) hP' ⟨by rw [z1]; exact hS.1, fun q g1 g2 => by
      rw [oq q (fun e => g2 (by rw [e]; exact hAa))]
      exact hS.2.1 q g1 g2, fun q hq => by
      rcases List.mem_append.mp hq with h | h
      · exact hS.2.2 q h
      · obtain ⟨z, -, hz⟩ := List.mem_map.mp h
        rw [← hz]
        exact hAa⟩ _ hheap X'
  exact ⟨t, step t a1, b1⟩
/-! texts -/
theorem zr_strv (C : zCx p R s m args meth c E mm d) (hS : va_S (zAd E) s.heap H locs) (hj : mm.2.2.2.2.1 = 20) {a : Nat} (h1 : 5000 ≤ a) (h2 : a < 5004) (hd : decode mm.2.1 pc = .ok (.getfield 9, 3))
    (kk : W p l e R s m args below meth c H locs cells slots Qe (F0 m (pc + 3) lsr (.ref (zad E (a + 1000)) :: rest))) : W p l e R s m args below meth c H locs cells slots Qe (F0 m pc lsr (.ref (zad E a) :: rest)) := by
  obtain ⟨hx, hb, -, hown, hts, -, hEv, -⟩ := C
  rw [hj] at hown
  have e1 : zad E a = E.2.1 (a - 5000) := by unfold zad; rw [if_neg (by omega), if_pos (by omega)]
  have e2 : zad E (a + 1000) = E.2.2.1 (a - 5000) := by unfold zad; rw [if_neg (by omega), if_neg (by omega), if_pos (by omega), show a + 1000 - 6000 = a - 5000 by omega]
  rw [e1]; rw [e2] at kk
  exact vk_getf hx hb (hEv.2.1.1 (a - 5000) (by omega)).2.2.1 hS hown (hts _ (zTG_in (i := 1052) (w := .fieldLink (zR0 20) 9 "java/lang/String" "value" "[B") (by decide +kernel) rfl)) (fun _ h => h) hd kk
theorem zr_strc (C : zCx p R s m args meth c E mm d) (hS : va_S (zAd E) s.heap H locs) (hj : mm.2.2.2.2.1 = 20) {a : Nat} (h1 : 5000 ≤ a) (h2 : a < 5004) (hd : decode mm.2.1 pc = .ok (.getfield 15, 3))
    (kk : W p l e R s m args below meth c H locs cells slots Qe (F0 m (pc + 3) lsr (.int 0 :: rest))) : W p l e R s m args below meth c H locs cells slots Qe (F0 m pc lsr (.ref (zad E a) :: rest)) := by
  obtain ⟨hx, hb, -, hown, hts, -, hEv, -⟩ := C
  rw [hj] at hown
  have e1 : zad E a = E.2.1 (a - 5000) := by unfold zad; rw [if_neg (by omega), if_pos (by omega)]
  rw [e1]
  exact vk_getf hx hb (hEv.2.1.1 (a - 5000) (by omega)).2.1 hS hown (hts _ (zTG_in (i := 1053) (w := .fieldLink (zR0 20) 15 "java/lang/String" "coder" "B") (by decide +kernel) rfl)) (fun _ h => h) hd kk
theorem zr_byt (C : zCx p R s m args meth c E mm d) (hS : va_S (zAd E) s.heap H locs) {a : Nat} {i : Int32} (h1 : 6000 ≤ a) (h2 : a < 6004) (hi : vp_in i (zlen.getD (a - 6000) 0)) (hd : decode mm.2.1 pc = .ok (.baload, 1))
    (kk : W p l e R s m args below meth c H locs cells slots Qe (F0 m (pc + 1) lsr (.int ((zbyt.getD (a - 6000) []).getD i.toNatClampNeg 0) :: rest))) : W p l e R s m args below meth c H locs cells slots Qe (F0 m pc lsr (.int i :: .ref (zad E a) :: rest)) := by
  obtain ⟨hx, hb, -, hown, hts, -, hEv, -⟩ := C
  have e1 : zad E a = E.2.2.1 (a - 6000) := by unfold zad; rw [if_neg (by omega), if_neg (by omega), if_pos (by omega)]
  rw [e1]
  exact va_tb hx hb (hEv.2.1.1 (a - 6000) (by omega)).2.2.2 hS hi rfl hd kk
theorem zr_bln (C : zCx p R s m args meth c E mm d) (hS : va_S (zAd E) s.heap H locs) {a : Nat} (h1 : 6000 ≤ a) (h2 : a < 6004) (hd : decode mm.2.1 pc = .ok (.arraylength, 1))
    (kk : W p l e R s m args below meth c H locs cells slots Qe (F0 m (pc + 1) lsr (.int (Int32.ofNat (zlen.getD (a - 6000) 0)) :: rest))) : W p l e R s m args below meth c H locs cells slots Qe (F0 m pc lsr (.ref (zad E a) :: rest)) := by
  obtain ⟨hx, hb, -, hown, hts, -, hEv, -⟩ := C
  have e1 : zad E a = E.2.2.1 (a - 6000) := by unfold zad; rw [if_neg (by omega), if_neg (by omega), if_pos (by omega)]
  rw [e1]
  obtain ⟨cell, g1, g2, g3, g4, g5, g6, g7⟩ := (hEv.2.1.1 (a - 6000) (by omega)).2.2.2.kept hS.2.1
  exact W.alen hx hb g1 g2 g5 rfl rfl hd kk
theorem zr_gst (C : zCx p R s m args meth c E mm d) (hS : va_S (zAd E) s.heap H locs) (hj : mm.2.2.2.2.1 = 20) (hd : decode mm.2.1 pc = .ok (.getstatic 38, 3))
    (kk : W p l e R s m args below meth c H locs cells slots Qe (F0 m (pc + 3) lsr (.int 1 :: rest))) : W p l e R s m args below meth c H locs cells slots Qe (F0 m pc lsr rest) := by
  obtain ⟨hx, hb, -, hown, hts, -, hEv, -⟩ := C
  rw [hj] at hown
  exact va_gets hx hb hEv.2.2.2.1 hS hown (hts _ (zTG_in (i := 394) (w := .fieldLink (zR0 20) 38 "java/lang/String" "COMPACT_STRINGS" "Z") (by decide +kernel) rfl)) (fun _ h => h) hd kk
theorem zr_gsf (C : zCx p R s m args meth c E mm d) (hS : va_S (zAd E) s.heap H locs) (hj : mm.2.2.2.2.1 = 20) (hd : decode mm.2.1 pc = .ok (.getstatic 1053, 3))
    (kk : W p l e R s m args below meth c H locs cells slots Qe (F0 m (pc + 3) lsr (E.2.2.2.2.1 :: rest))) : W p l e R s m args below meth c H locs cells slots Qe (F0 m pc lsr rest) := by
  obtain ⟨hx, hb, -, hown, hts, -, hEv, -⟩ := C
  rw [hj] at hown
  exact va_gets hx hb hEv.2.2.2.2.1 hS hown (hts _ (zTG_in (i := 410) (w := .fieldLink (zR0 20) 1053 "jdk/internal/util/Preconditions" "SIOOBE_FORMATTER" "Ljava/util/function/BiFunction;") (by decide +kernel) rfl)) (fun _ h => h) hd kk
/-! constants -/
theorem zK_row {j i : Nat} {w : Value} (h : zK j i = some w) : (∃ x, w = .int x ∧ Cond.constant (zR0 j) i x ∈ zTG) ∨ (∃ x, w = .long x ∧ Cond.constantLong (zR0 j) i x ∈ zTG) ∨ (∃ a, w = .ref a ∧ 5000 ≤ a ∧ a < 5004 ∧ j = 8 ∧ zki[a - 5000]? = some i) := by
  unfold zK at h
  cases hf : zKt.find? (fun e => e.1.1 == j && e.1.2 == i) with
  | none => rw [hf] at h; cases h
  | some e =>
    rw [hf] at h
    have h2 : e.2.1 = w := Option.some.inj h
    have hp := List.find?_some hf
    simp only [Bool.and_eq_true, beq_iff_eq] at hp
    have hc := List.all_eq_true.mp zKt_ok e (List.mem_of_find?_eq_some hf)
    unfold zKc at hc
    rw [h2, hp.1, hp.2] at hc
    split at hc
    · exact Or.inl ⟨_, rfl, zTG_in (of_decide_eq_true hc) rfl⟩
    · exact Or.inr (Or.inl ⟨_, rfl, zTG_in (of_decide_eq_true hc) rfl⟩)
    · obtain ⟨a1, a2, a3, a4⟩ := of_decide_eq_true hc
      exact Or.inr (Or.inr ⟨_, rfl, a1, a2, a3, a4⟩)
    · cases hc
theorem zr_ldcs (C : zCx p R s m args meth c E mm d) {a i : Nat} (hj : mm.2.2.2.2.1 = 8) (h1 : 5000 ≤ a) (h2 : a < 5004) (hk : zki[a - 5000]? = some i) (hd : decode mm.2.1 pc = .ok (.ldc i, 2))
    (kk : W p l e R s m args below meth c H locs cells slots Qe (F0 m (pc + 2) lsr (.ref (zad E a) :: rest))) : W p l e R s m args below meth c H locs cells slots Qe (F0 m pc lsr rest) := by
  obtain ⟨hx, hb, -, hown, hts, -, hEv, -⟩ := C
  rw [hj] at hown
  have e1 : zad E a = E.2.1 (a - 5000) := by unfold zad; rw [if_neg (by omega), if_pos (by omega)]
  rw [e1] at kk
  have hR := hEv.2.2.1 (a - 5000) (by omega)
  have hi : zki.getD (a - 5000) 0 = i := by rw [List.getD_eq_getElem?_getD, hk]; rfl
  rw [hi] at hR
  exact va_ldcS hx hb hown hR hd kk
end ZI
/-! the start and the end of a method -/
theorem zEv.warm {E : zE} {s U : State} {H : Heap} {locs : List Loc} (h : zEv E s s.heap) (hW : s.WarmedH U.vm) (hS : va_S (zAd E) s.heap H locs) (hU : U.heap = H) : zEv E U U.heap := by
  rw [hU]
  obtain ⟨h1, h2, h3, h4, h5, h6, h7, h8, h9, h10, h11⟩ := h
  exact ⟨h1.moved hW.alike, (h2.kept hS.2.1).moved hW.alike, fun i hi => (h3 i hi).warm hW, (h4.kept hS.2.1).moved hW.alike, (h5.kept hS.2.1).moved hW.alike, h6, fun j i y hm => va_Nw.warmM hW (h7 j i y hm), h8.moved hW.alike, h9.moved hW.alike, h10.moved hW.alike, fun k a b => va_Nw.warmC hW (h11 k a b)⟩
theorem zEv.calling {E : zE} {U : State} (g : JFrame) (mk : MethodId) (a : Array Value) (h : zEv E U U.heap) : zEv E (U.calling g mk a) (U.calling g mk a).heap := by
  have hA : U.vm.Alike (U.calling g mk a).vm := Vm.Alike.refl U.vm
  have hv : (U.calling g mk a).vm = U.vm := rfl
  obtain ⟨h1, h2, h3, h4, h5, h6, h7, h8, h9, h10, h11⟩ := h
  exact ⟨h1.moved hA, h2.moved hA, fun i hi => (h3 i hi).same hv, h4.moved hA, h5.moved hA, h6, fun j i y hm => (h7 j i y hm).same rfl hv.symm, h8.moved hA, h9.moved hA, h10.moved hA, fun k a b => (h11 k a b).same rfl hv.symm⟩
def zPc (E : zE) (as : List Value) (σ : zSh) (ρ : zRf) (I : zIm) (L : zLm) : Array Value → State → Prop := fun a U => a = (as.map (zco E)).toArray ∧ zP E σ ρ I L U.heap ∧ zEv E U U.heap
def zQc (E : zE) (Q : zPo) : Array Value → State → Outcome → State → Prop := fun _ st oc t => (∃ o σ ρ I L, oc = .returned (o.map (zco E)) ∧ Q o σ ρ I L ∧ zP E σ ρ I L t.heap) ∧ va_F (zAd E) st t
theorem zPc_blind (E : zE) (as : List Value) (σ : zSh) (ρ : zRf) (I : zIm) (L : zLm) : FrameBlind (zPc E as σ ρ I L) := fun a U g mk h => ⟨h.1, h.2.1, h.2.2.calling g mk a⟩
def zws (mm : zM) : List Cond := Cond.code mm.1 mm.2.1 mm.2.2.1 mm.2.2.2.1 :: zTG
def zrm (d : Nat) (mm : zM) : Room := { frames := d + 2, cells := mm.2.2.2.2.2.1, slots := mm.2.2.2.2.2.2, locals := 40 * (d + 2) }
theorem zMs_nL : zMs.all (fun m => decide (m.2.2.1 ≤ 21)) = true := by decide +kernel
theorem zM_row {mi : Nat} {cm : zM} (h : zMs[mi]? = some cm) : Cond.code cm.1 cm.2.1 cm.2.2.1 cm.2.2.2.1 ∈ zTG ∧ Cond.initialized cm.1.cls ∈ zTG ∧ plainName cm.1.cls = true ∧ cm.1.cls = zR0 cm.2.2.2.2.1 ∧ (cm.1.cls ≠ "java/lang/invoke/MethodHandle" ∧ cm.1.cls ≠ "java/lang/invoke/VarHandle") ∧ cm.2.2.1 ≤ 21 := by
  have hm : cm ∈ zMs := List.mem_of_getElem? h
  have hl := of_decide_eq_true (List.all_eq_true.mp zMs_nL cm hm)
  rw [← zMz_fst] at hm
  obtain ⟨q, hq, rfl⟩ := List.mem_map.mp hm
  obtain ⟨h1, h2⟩ := zMz_ok q hq
  unfold zMc at h2
  simp only [Bool.and_eq_true, decide_eq_true_eq] at h2
  obtain ⟨⟨⟨a1, a2⟩, a3⟩, a4⟩ := h2
  exact ⟨zTG_in h1 rfl, zTG_in a1 rfl, a2, a3, a4, hl⟩
theorem zws_good {cm : zM} (h : Cond.code cm.1 cm.2.1 cm.2.2.1 cm.2.2.2.1 ∈ zTG) : GoodIn zTG (zws cm) := by
  intro w hw
  rcases List.mem_cons.mp hw with rfl | hw
  · exact ⟨h, zTG_good _ h⟩
  · exact ⟨hw, zTG_good _ hw⟩
theorem zgood_app {ws : List Cond} {cm : zM} (h : Cond.code cm.1 cm.2.1 cm.2.2.1 cm.2.2.2.1 ∈ zTG) (hw : ∀ w ∈ ws, w ∈ zTG) : GoodIn zTG (ws ++ zws cm) := by
  intro w h2
  rcases List.mem_append.mp h2 with h3 | h3
  · exact ⟨hw w h3, zTG_good _ (hw w h3)⟩
  · exact zws_good h w h3

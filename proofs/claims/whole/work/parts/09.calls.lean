/-! int[n][k], arraycopy, texts, the script, constants, calls -/
theorem zouter (E : zE) (c : ClassId) (N q : Nat) (hq : q + N < 4500) (I : zIm) (L : zLm) (ρ : zRf) (cc : Nat) (hρ : ∀ j, ρ cc j = if j < N then some (q + 1 + j) else none) : Jvm.Free.Multi.outerC c N (E.1 + q) N = arrV c N (zav E 25 ρ I L cc) := by
  have key : ∀ i : Nat, i ≤ N → Jvm.Free.Multi.outerC c N (E.1 + q) i = arrV c N (fun j => if j < i then .ref (E.1 + (q + 1 + j)) else .null) := by
    intro i
    induction i with
    | zero =>
      intro _
      show ({ cls := c, slots := Array.replicate N .null, vm := .none } : Cell) = _
      rw [arrV_new]
      congr 1
    | succ i ih =>
      intro hi
      show (Jvm.Free.Multi.outerC c N (E.1 + q) i).setSlot i (.ref (E.1 + q + 1 + i)) = _
      rw [ih (by omega), arrV_store]
      congr 1
      funext j
      by_cases e : j = i
      · subst e
        have e9 : E.1 + q + 1 + j = E.1 + (q + 1 + j) := by omega
        simp [updV, e9]
      · by_cases h : j < i
        · simp [updV, e, h, Nat.lt_succ_of_lt h]
        · simp [updV, e, h, show ¬ j < i + 1 by omega]
  rw [key N (Nat.le_refl _)]
  have hext : ∀ (f g : Nat → Value), (∀ j, j < N → f j = g j) → arrV c N f = arrV c N g := by
    intro f g h
    unfold arrV
    congr 1
    apply Array.ext
    · simp
    · intro j h1 h2
      simp only [Array.getElem_ofFn]
      exact h j (by simpa using h1)
  refine hext _ _ fun j hj => ?_
  rw [if_pos hj]
  show _ = zco E (va_rf (ρ cc j))
  rw [hρ, if_pos hj]
  show _ = Value.ref (zad E (q + 1 + j))
  rw [zad_lt (by omega)]
section ZH
variable {p : Program} {l : Launch} {e : Env} {R : Room} {s : State} {m : MethodId} {args : Array Value} {below : List Frame} {meth : Method} {c : Code} {H : Heap} {locs : List Loc} {cells slots : Nat} {Qe : State → Prop}
variable {E : zE} {mm : zM} {d : Nat} {σ : zSh} {ρ : zRf} {I : zIm} {L : zLm} {pc : Nat} {lsr : Array Slot} {rest : List Value}
theorem zr_mul (C : zCx p R s m args meth c E mm d) (hP : zP E σ ρ I L H) (hS : va_S (zAd E) s.heap H locs) {n k : Int32} (hj : mm.2.2.2.2.1 = 9) (hn : ¬ n < 0) (hk : ¬ k < 0) (h1 : cells + (1 + n.toNatClampNeg) ≤ mm.2.2.2.2.2.1) (h2 : slots + (n.toNatClampNeg + n.toNatClampNeg * k.toNatClampNeg) ≤ mm.2.2.2.2.2.2) (h3 : σ.1 + n.toNatClampNeg < 4000) (h4 : n.toNatClampNeg ≤ 100) (h5 : k.toNatClampNeg ≤ 100) (hd : decode mm.2.1 pc = .ok (.multianewarray 33 2, 4))
    (kk : ∀ (H1 : Heap) (locs1 : List Loc), zP E (σ.1 + 1 + n.toNatClampNeg, fun a => if a = σ.1 then (25, n.toNatClampNeg) else if σ.1 < a ∧ a ≤ σ.1 + n.toNatClampNeg then (20, k.toNatClampNeg) else σ.2 a) (fun a j => if a = σ.1 then (if j < n.toNatClampNeg then some (σ.1 + 1 + j) else none) else if σ.1 < a ∧ a ≤ σ.1 + n.toNatClampNeg then none else ρ a j) (fun a j => if σ.1 ≤ a ∧ a ≤ σ.1 + n.toNatClampNeg then 0 else I a j) (fun a j => if σ.1 ≤ a ∧ a ≤ σ.1 + n.toNatClampNeg then 0 else L a j) H1 → va_S (zAd E) s.heap H1 locs1 →
      W p l e R s m args below meth c H1 locs1 (cells + 1 + n.toNatClampNeg) (slots + n.toNatClampNeg + n.toNatClampNeg * k.toNatClampNeg) Qe (F0 m (pc + 4) lsr (.ref (zad E σ.1) :: rest))) : W p l e R s m args below meth c H locs cells slots Qe (F0 m pc lsr (.int k :: .int n :: rest)) := by
  obtain ⟨hx, hb, -, hown, hts, -, hEv, -, -, hRc, hRs⟩ := C
  rw [hj] at hown
  have hclink : (Cond.classLink (zR0 9) 33 ("[" ++ (FieldType.array .int).toString)).before args s = true := hts _ (zTG_in zMul_ok rfl)
  have hover : (Cond.arrayOver (.array .int)).before args s = true := by
    have := hEv.2.2.2.2.2.2.2.2.2.1
    unfold zAOA Cond.before Cond.holds at this
    unfold Cond.before Cond.holds
    simp only [Cond.value] at this ⊢
    exact this
  have harr : (Cond.arrayClass .int).before args s = true := hts _ (zTG_in (i := 109) (by decide +kernel) rfl)
  obtain ⟨-, hcy⟩ := hEv.1.2 _ _ (zty_at E (kd := 20) (by omega) (by omega))
  obtain ⟨-, hcg⟩ := hEv.1.2 _ _ (zty_at E (kd := 25) (by omega) (by omega))
  have hcy : s.vm.findClass (FieldType.array .int).toString = some (E.2.2.2.2.2.2 20) := hcy
  have hcg : s.vm.findClass ("[" ++ (FieldType.array .int).toString) = some (E.2.2.2.2.2.2 25) := hcg
  have hb2 : k.toNatClampNeg * componentBytes .int ≤ 536870912 := by
    calc k.toNatClampNeg * componentBytes .int ≤ 100 * componentBytes .int := Nat.mul_le_mul_right _ h5
      _ ≤ 536870912 := by decide
  intro T hT Xs
  obtain ⟨vm₁, cA, comp, -, fA, fC, hO, -, X', step⟩ := Xs.multianewarray2F hx hown hclink hover harr (g := F0 m pc lsr (.int k :: .int n :: rest)) rfl (by rw [hb]; exact hd) rfl hn hk (by omega) hb2 (by omega) rfl rfl (by rw [hRc]; exact h1) (by rw [hRs]; exact h2)
  have ec : some (E.2.2.2.2.2.2 20) = some comp := hcy.symm.trans fC
  cases ec
  have ea : some (E.2.2.2.2.2.2 25) = some cA := hcg.symm.trans fA
  cases ea
  generalize hF : Jvm.Free.Multi.fill (T.setVm vm₁) (E.2.2.2.2.2.2 25) (E.2.2.2.2.2.2 20) n.toNatClampNeg k.toNatClampNeg (defaultValue .int) n.toNatClampNeg = F at X' step
  have hTh : (T.setVm vm₁).heap = H := hT
  obtain ⟨f1, f2, -, -⟩ := Jvm.Free.Multi.fill_facts (T.setVm vm₁) (E.2.2.2.2.2.2 25) (E.2.2.2.2.2.2 20) n.toNatClampNeg k.toNatClampNeg (defaultValue .int) n.toNatClampNeg
  rw [hF, hTh] at f1 f2
  have hold : ∀ x : Nat, x < H.size → F.heap[x]? = H[x]? := fun x hx => by
    have := Jvm.Free.Multi.fill_old (T.setVm vm₁) (E.2.2.2.2.2.2 25) (E.2.2.2.2.2.2 20) n.toNatClampNeg k.toNatClampNeg (defaultValue .int) (a := x) (by rw [hTh]; exact hx) n.toNatClampNeg
    rw [hF, hTh] at this
    exact this
  have hrow : ∀ j : Nat, j < n.toNatClampNeg → F.heap[H.size + 1 + j]? = some (arrV (E.2.2.2.2.2.2 20) k.toNatClampNeg (fun _ => .int 0)) := fun j hj => by
    have := Jvm.Free.Multi.fill_inner (T.setVm vm₁) (E.2.2.2.2.2.2 25) (E.2.2.2.2.2.2 20) n.toNatClampNeg k.toNatClampNeg (defaultValue .int) n.toNatClampNeg j hj
    rw [hF, hTh] at this
    rw [← arrV_new]
    exact this
  have hout := zouter E (E.2.2.2.2.2.2 25) n.toNatClampNeg σ.1 (by omega) (fun a j => if σ.1 ≤ a ∧ a ≤ σ.1 + n.toNatClampNeg then 0 else I a j) (fun a j => if σ.1 ≤ a ∧ a ≤ σ.1 + n.toNatClampNeg then 0 else L a j) (fun a j => if a = σ.1 then (if j < n.toNatClampNeg then some (σ.1 + 1 + j) else none) else if σ.1 < a ∧ a ≤ σ.1 + n.toNatClampNeg then none else ρ a j) σ.1 (fun j => if_pos rfl)
  rw [hP.2.1] at f2
  rw [hout] at f2
  have hP' : zP E (σ.1 + 1 + n.toNatClampNeg, fun a => if a = σ.1 then (25, n.toNatClampNeg) else if σ.1 < a ∧ a ≤ σ.1 + n.toNatClampNeg then (20, k.toNatClampNeg) else σ.2 a) (fun a j => if a = σ.1 then (if j < n.toNatClampNeg then some (σ.1 + 1 + j) else none) else if σ.1 < a ∧ a ≤ σ.1 + n.toNatClampNeg then none else ρ a j) (fun a j => if σ.1 ≤ a ∧ a ≤ σ.1 + n.toNatClampNeg then 0 else I a j) (fun a j => if σ.1 ≤ a ∧ a ≤ σ.1 + n.toNatClampNeg then 0 else L a j) F.heap := by
    refine ⟨by show σ.1 + 1 + n.toNatClampNeg ≤ 5000; omega, by rw [f1, hP.2.1]; show _ = E.1 + (σ.1 + 1 + n.toNatClampNeg); omega, fun a ha => ?_⟩
    have ha : a < σ.1 + 1 + n.toNatClampNeg := ha
    by_cases e1 : a = σ.1
    · subst e1
      have hsh : (fun a => if a = σ.1 then (25, n.toNatClampNeg) else if σ.1 < a ∧ a ≤ σ.1 + n.toNatClampNeg then (20, k.toNatClampNeg) else σ.2 a) σ.1 = (25, n.toNatClampNeg) := if_pos rfl
      refine Or.inr ?_
      dsimp only
      rw [if_pos rfl]
      exact ⟨Nat.le_of_ble_eq_true rfl, Nat.le_of_ble_eq_true rfl, f2⟩
    · by_cases e2 : σ.1 < a ∧ a ≤ σ.1 + n.toNatClampNeg
      · refine Or.inr ?_
        dsimp only
        rw [if_neg e1, if_pos e2]
        refine ⟨Nat.le_of_ble_eq_true rfl, Nat.le_of_ble_eq_true rfl, ?_⟩
        have := hrow (a - σ.1 - 1) (by omega)
        rw [hP.2.1, show E.1 + σ.1 + 1 + (a - σ.1 - 1) = E.1 + a by omega] at this
        rw [this]
        congr 2
        funext j
        show Value.int 0 = Value.int (if σ.1 ≤ a ∧ a ≤ σ.1 + n.toNatClampNeg then 0 else I a j)
        rw [if_pos ⟨by omega, e2.2⟩]
      · have hl : a < σ.1 := by omega
        refine zat_sh (σ := σ) (zat_kept (hP.2.2 a hl) (hold _ (by rw [hP.2.1]; omega)) (fun j => ?_) (fun j => ?_) (fun j => ?_)) ?_
        · rw [if_neg e1, if_neg e2]
        · rw [if_neg (by omega)]
        · rw [if_neg (by omega)]
        · dsimp only; rw [if_neg e1, if_neg e2]
  have hadr : zad E σ.1 = H.size := by rw [zad_lt (by omega), hP.2.1]
  obtain ⟨t, a1, b1⟩ := kk F.heap locs hP' ⟨Nat.le_trans hS.1 (by rw [f1]; omega), fun x g1 g2 => (hold x (Nat.lt_of_lt_of_le g1 hS.1)).trans (hS.2.1 x g1 g2), hS.2.2⟩ F rfl X'
  refine ⟨t, step t ?_, b1⟩
  have e : T.heap.size = H.size := by rw [hT]
  rw [e, ← hadr]
  exact a1
end ZH

/-! WHAT THE NUMBERS STAND FOR -/
/-- base; the texts' addresses, their bytes'; the script's; the formatter; the classes and their slots; the arrays' classes by kind -/
abbrev zE : Type := Nat × (Nat → Nat) × (Nat → Nat) × Nat × Value × va_G × (Nat → ClassId)
def zAd (E : zE) : Nat → Prop := fun q => E.1 ≤ q
def zad (E : zE) (a : Nat) : Nat := if a < 5000 then E.1 + a else if a < 6000 then E.2.1 (a - 5000) else if a < 7000 then E.2.2.1 (a - 6000) else E.2.2.2.1
def zco (E : zE) : Value → Value
  | .ref a => .ref (zad E a)
  | .retAddr _ => E.2.2.2.2.1
  | v => v
def zTG : List Cond := lw_tbl.filter goodWord
theorem zTG_in {i : Nat} {w : Cond} (h : lw_tbl[i]? = some w) (hg : goodWord w = true) : w ∈ zTG := List.mem_filter.mpr ⟨List.mem_of_getElem? h, hg⟩
theorem zTG_good : ∀ w ∈ zTG, (w.onTables && w.keeps) = true ∨ ∃ ty, w = .arrayClass ty := fun _ h => good_of_word (List.mem_filter.mp h).2
theorem zal_in {ws : List Cond} {ix : List Nat} (h : zal ws ix = true) : ∀ w ∈ ws, w ∈ zTG := by
  unfold zal at h
  rw [Bool.and_eq_true, beq_iff_eq, List.all_eq_true] at h
  intro w hw
  obtain ⟨k, hk, rfl⟩ := List.mem_iff_getElem.mp hw
  have hk2 : k < ix.length := by omega
  have hm : (ws[k], ix[k]) ∈ ws.zip ix := by
    rw [List.mem_iff_getElem]
    exact ⟨k, by simp; omega, by simp⟩
  have := h.2 _ hm
  rw [Bool.and_eq_true, decide_eq_true_eq] at this
  exact zTG_in this.1 this.2
def zaty (kd : Nat) : FieldType := match kd with
  | 20 => .int
  | 21 => .boolean
  | 22 => .long
  | 23 => .object RX7
  | 24 => .object RX6
  | _ => .array .int
def zty (E : zE) : List (ClassId × FieldType) := (List.range 6).map fun k => (E.2.2.2.2.2.2 (20 + k), zaty (20 + k))
def zav (E : zE) (kd : Nat) (ρ : zRf) (I : zIm) (L : zLm) (c j : Nat) : Value := if kd = 22 then .long (L c j) else if kd ≤ 21 then .int (I c j) else zco E (va_rf (ρ c j))
def zN0 (kd : Nat) : Nat := (zfl.getD kd []).length
def zat (E : zE) (σ : zSh) (ρ : zRf) (I : zIm) (L : zLm) (c : Nat) (H : Heap) : Prop :=
  ((σ.2 c).1 < 12 ∧ t_OB (E.1 + c) (E.2.2.2.2.2.1.1 (σ.2 c).1) (zN0 (σ.2 c).1) (E.2.2.2.2.2.1.2 (σ.2 c).1) H (fun k => zco E (zfv (zft (σ.2 c).1 k) ρ I L c k))) ∨
  (20 ≤ (σ.2 c).1 ∧ (σ.2 c).1 ≤ 25 ∧ H[E.1 + c]? = some (arrV (E.2.2.2.2.2.2 (σ.2 c).1) (σ.2 c).2 (zav E (σ.2 c).1 ρ I L c)))
/-- the heap holds the memory -/
def zP (E : zE) (σ : zSh) (ρ : zRf) (I : zIm) (L : zLm) (H : Heap) : Prop := σ.1 ≤ 5000 ∧ H.size = E.1 + σ.1 ∧ ∀ c, c < σ.1 → zat E σ ρ I L c H
def zAOA (U : State) : Prop := (Cond.arrayOver (.array .int)).before #[] U = true
theorem zfind_moved {u U : State} (hvm : u.vm.Alike U.vm) (p : Class → Bool) (hp : ∀ k k' : Class, k'.kind = k.kind → p k' = p k) : U.vm.classes.findIdx? p = u.vm.classes.findIdx? p := by
  have e : U.vm.classes.map p = u.vm.classes.map p := by
    apply Array.ext
    · simp [hvm.2.1]
    · intro i h1 h2
      simp only [Array.size_map] at h1 h2
      obtain ⟨k', hk', he⟩ := hvm.2.2 i _ (Array.getElem?_eq_getElem h2)
      have h3 : U.vm.classes[i] = k' := by
        have := Array.getElem?_eq_getElem h1
        rw [hk'] at this
        exact (Option.some.inj this).symm
      simp only [Array.getElem_map]
      rw [h3]
      exact hp _ _ (by rw [he])
  have a1 := Array.findIdx?_map (xs := U.vm.classes) (f := p) (p := id)
  have a2 := Array.findIdx?_map (xs := u.vm.classes) (f := p) (p := id)
  rw [e] at a1
  exact a1.symm.trans a2
theorem zAOA.moved {u U : State} (hvm : u.vm.Alike U.vm) (h : zAOA u) : zAOA U := by
  have hF : ∀ n, U.vm.findClass n = u.vm.findClass n := fun n => by rw [hvm.findClass]
  unfold zAOA Cond.before Cond.holds at h ⊢
  simp only [Cond.value] at h ⊢
  rw [hF]
  cases hc : u.vm.findClass (FieldType.array FieldType.int).toString with
  | none => rw [hc] at h; exact h
  | some comp =>
    rw [hc] at h
    simp only [Option.bind_some] at h ⊢
    rw [zfind_moved hvm _ (fun k k' hk => by rw [hk])]
    generalize hi : Array.findIdx? _ u.vm.classes = x at h ⊢
    cases x with
    | none => exact h
    | some c =>
      simp only [Option.bind_some] at h ⊢
      cases hk : u.vm.classes[c]? with
      | none => rw [hk] at h; simp at h
      | some k =>
        obtain ⟨k', hk', he⟩ := hvm.2.2 _ _ hk
        rw [hk] at h
        rw [hk', he]
        simp only [Option.map_some] at h ⊢
        rw [hF]
        exact h
/-- what holds of the tables and of the constants, in a state with the heap H -/
def zEv (E : zE) (s : State) (H : Heap) : Prop := va_K E.2.2.2.2.2.1 vwCl (zty E) s ∧ vk_S 4 zlen zbyt E.2.1 E.2.2.1 (zAd E) s H ∧ (∀ i, i < 4 → vk_R RX8 (zki.getD i 0) (ztx.getD i "") (E.2.1 i) s) ∧
  va_Z RJ0 "COMPACT_STRINGS" "Z" (.int 1) (zAd E) s H ∧ va_Z RJ3 "SIOOBE_FORMATTER" "Ljava/util/function/BiFunction;" E.2.2.2.2.1 (zAd E) s H ∧ E.2.2.2.2.1.category = 1 ∧
  (∀ (j i : Nat) (y : MethodName), (Cond.methodLinkNest (zR0 j) i y RX10) ∈ lw_tbl → va_Nw (.methodLinkNest (zR0 j) i y RX10) s) ∧ va_AO RX7 s ∧ va_AO RX6 s ∧ zAOA s ∧ (∀ k : Nat, 1 ≤ k → k ≤ 5 → va_Nw (.castable (zR0 k) RX6) s)

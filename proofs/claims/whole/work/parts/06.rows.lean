/-! ROWS: what the machine's rows of cells become over the small memory -/
theorem zad_lt {E : zE} {a : Nat} (h : a < 5000) : zad E a = E.1 + a := if_pos h
theorem zP.adr {E σ ρ I L H a} (h : zP E σ ρ I L H) (ha : a < σ.1) : zad E a = E.1 + a := zad_lt (Nat.lt_of_lt_of_le ha h.1)
theorem zfv_same {ty ρ I L ρ' I' L' c k} (h1 : ρ' c k = ρ c k) (h2 : I' c k = I c k) (h3 : L' c k = L c k) : zfv ty ρ' I' L' c k = zfv ty ρ I L c k := by
  unfold zfv
  split
  · rw [h3]
  · rw [h1]
  · rw [h2]
theorem zav_same {E kd ρ I L ρ' I' L' c k} (h1 : ρ' c k = ρ c k) (h2 : I' c k = I c k) (h3 : L' c k = L c k) : zav E kd ρ' I' L' c k = zav E kd ρ I L c k := by
  unfold zav
  rw [h1, h2, h3]
theorem zat_kept {E σ ρ I L ρ' I' L' c H H1} (h : zat E σ ρ I L c H) (hq : H1[E.1 + c]? = H[E.1 + c]?) (h1 : ∀ k, ρ' c k = ρ c k) (h2 : ∀ k, I' c k = I c k) (h3 : ∀ k, L' c k = L c k) : zat E σ ρ' I' L' c H1 := by
  rcases h with ⟨a, b⟩ | ⟨a, b, d⟩
  · exact Or.inl ⟨a, (b.kept hq).to fun k _ => by rw [zfv_same (h1 k) (h2 k) (h3 k)]⟩
  · refine Or.inr ⟨a, b, ?_⟩
    rw [hq, d]
    congr 2
    funext k
    exact (zav_same (h1 k) (h2 k) (h3 k)).symm
/-- one cell is written -/
theorem zP.put {E σ ρ I L ρ' I' L' H H1 a} (h : zP E σ ρ I L H) (z : H1.size = H.size) (oq : ∀ q : Nat, q ≠ E.1 + a → H1[q]? = H[q]?) (hat : zat E σ ρ' I' L' a H1) (h1 : ∀ c k, c ≠ a → ρ' c k = ρ c k) (h2 : ∀ c k, c ≠ a → I' c k = I c k) (h3 : ∀ c k, c ≠ a → L' c k = L c k) : zP E σ ρ' I' L' H1 := by
  refine ⟨h.1, z.trans h.2.1, fun c hc => ?_⟩
  by_cases e : c = a
  · subst e; exact hat
  · exact zat_kept (h.2.2 c hc) (oq _ (by omega)) (fun k => h1 c k e) (fun k => h2 c k e) (fun k => h3 c k e)
theorem zup_s {α : Type} {f : Nat → Nat → α} {c k : Nat} {v : α} : zup f c k v c k = v := if_pos ⟨rfl, rfl⟩
theorem zup_c {α : Type} {f : Nat → Nat → α} {c k : Nat} {v : α} {a j : Nat} (h : a ≠ c) : zup f c k v a j = f a j := if_neg fun q => h q.1
theorem zup_k {α : Type} {f : Nat → Nat → α} {c k : Nat} {v : α} {a j : Nat} (h : j ≠ k) : zup f c k v a j = f a j := if_neg fun q => h q.2
/-- every class: its number's row, its name, its words, its fields' default values -/
def zdf (ty : Nat) : Value := match ty with
  | 2 => .long 0
  | 3 => .null
  | _ => .int 0
def zcls (kd : Nat) : Bool := match vwCl[kd]? with
  | none => false
  | some r => decide (r.1 = zR0 kd) && decide (r.2.2 = zN0 kd) && (List.range r.2.2).all (fun k => decide ((parseFieldDescriptor (r.2.1 k).2.2.1).map defaultValue = some (zdf (zft kd k))) && (zft kd k != 0 || decide (parseFieldDescriptor (r.2.1 k).2.2.1 = some .int)) && (zft kd k != 1 || decide (parseFieldDescriptor (r.2.1 k).2.2.1 = some .boolean)) && (zft kd k != 2 || decide (parseFieldDescriptor (r.2.1 k).2.2.1 = some .long)) && (zft kd k != 3 || (match parseFieldDescriptor (r.2.1 k).2.2.1 with
    | some (.object _) => true
    | some (.array _) => true
    | _ => false))) && (List.range r.2.2).all (fun a => (List.range r.2.2).all (fun b => a == b || decide ((r.2.1 a).2.1 ≠ (r.2.1 b).2.1)))
theorem zcls_ok : ∀ kd, kd < 12 → zcls kd = true := by decide +kernel
set_option maxRecDepth 20000 in
theorem zuw_ok : ∀ kd, kd < 12 → ∀ r, vwCl[kd]? = some r → ∀ w ∈ u_ws r.1 r.2.1 r.2.2, w ∈ zTG := by
  have h : (List.range 12).all (fun kd => match vwCl[kd]? with | none => false | some r => (u_ws r.1 r.2.1 r.2.2).all (fun w => decide (w ∈ lw_tbl) && goodWord w)) = true := by decide +kernel
  rw [List.all_eq_true] at h
  intro kd hkd r hr w hw
  have h1 := h kd (List.mem_range.mpr hkd)
  rw [hr] at h1
  have h2 := List.all_eq_true.mp h1 w hw
  rw [Bool.and_eq_true, decide_eq_true_eq] at h2
  exact List.mem_filter.mpr h2
theorem zcl_row {kd : Nat} (h : kd < 12) : ∃ r : vw_C, vwCl[kd]? = some r ∧ r.1 = zR0 kd ∧ r.2.2 = zN0 kd ∧ (∀ w ∈ u_ws r.1 r.2.1 r.2.2, w ∈ zTG) ∧ (∀ k, k < r.2.2 → ∃ t, parseFieldDescriptor (r.2.1 k).2.2.1 = some t ∧ defaultValue t = zdf (zft kd k) ∧ (zft kd k = 0 → t = .int) ∧ (zft kd k = 1 → t = .boolean) ∧ (zft kd k = 2 → t = .long) ∧ (zft kd k = 3 → (∃ n, t = .object n) ∨ ∃ u, t = .array u)) ∧ (∀ a, a < r.2.2 → ∀ b, b < r.2.2 → a ≠ b → (r.2.1 a).2.1 ≠ (r.2.1 b).2.1) := by
  have h0 := zcls_ok kd h
  unfold zcls at h0
  split at h0
  · cases h0
  · rename_i r hr
    simp only [Bool.and_eq_true, decide_eq_true_eq] at h0
    obtain ⟨⟨⟨a1, a2⟩, a3⟩, a4⟩ := h0
    refine ⟨r, hr, a1, a2, zuw_ok kd h r hr, fun k hk => ?_, fun a ha b hb hab => ?_⟩
    · have h1 := List.all_eq_true.mp a3 k (List.mem_range.mpr hk)
      simp only [Bool.and_eq_true, decide_eq_true_eq, Bool.or_eq_true, bne_iff_ne, ne_eq] at h1
      obtain ⟨⟨⟨⟨b1, b2⟩, b3⟩, b4⟩, b5⟩ := h1
      cases hp : parseFieldDescriptor (r.2.1 k).2.2.1 with
      | none => rw [hp] at b1; cases b1
      | some t =>
        rw [hp] at b1 b2 b3 b4 b5
        refine ⟨t, rfl, Option.some.inj b1, fun e => ?_, fun e => ?_, fun e => ?_, fun e => ?_⟩
        · rcases b2 with q | q
          · exact absurd e q
          · exact Option.some.inj q
        · rcases b3 with q | q
          · exact absurd e q
          · exact Option.some.inj q
        · rcases b4 with q | q
          · exact absurd e q
          · exact Option.some.inj q
        · rcases b5 with q | q
          · exact absurd e q
          · cases t <;> first | exact Or.inl ⟨_, rfl⟩ | exact Or.inr ⟨_, rfl⟩ | cases q
    · have h1 := List.all_eq_true.mp (List.all_eq_true.mp a4 a (List.mem_range.mpr ha)) b (List.mem_range.mpr hb)
      simp only [Bool.or_eq_true, beq_iff_eq, decide_eq_true_eq] at h1
      rcases h1 with q | q
      · exact absurd q hab
      · exact q
theorem zfin_row {kd : Nat} {r : vw_C} (h : kd < 12) (hr : vwCl[kd]? = some r) {k : Nat} (hk : k < r.2.2) (hf : (r.2.1 k).2.2.2 = true) : (r.2.1 k).1 = zR0 kd := by
  have h1 := List.all_eq_true.mp zfin_ok kd (List.mem_range.mpr h)
  rw [hr] at h1
  simp only [Bool.and_eq_true, decide_eq_true_eq] at h1
  have h2 := List.all_eq_true.mp h1.2 k (List.mem_range.mpr hk)
  rw [hf] at h2
  simp only [Bool.not_true, Bool.false_or, decide_eq_true_eq] at h2
  exact h2.trans h1.1
/-- what the table of fields says -/
theorem zF_row {j i ty k : Nat} {fin : Bool} {oks : List Nat} (h : zF j i = some (ty, k, fin, oks)) {kd : Nat} (hkd : kd ∈ oks) : ∃ (r : vw_C) (ref : String), vwCl[kd]? = some r ∧ k < r.2.2 ∧ (r.2.1 k).2.2.2 = fin ∧ zft kd k = ty ∧ Cond.fieldLink (zR0 j) i ref (r.2.1 k).2.1 (r.2.1 k).2.2.1 ∈ zTG ∧ ((r.2.1 k).1 = ref ∨ Cond.sameField ref (r.2.1 k).1 (r.2.1 k).2.1 (r.2.1 k).2.2.1 ∈ zTG) := by
  unfold zF at h
  cases hf : zFt.find? (fun e => e.1.1 == j && e.1.2 == i) with
  | none => rw [hf] at h; cases h
  | some e =>
    rw [hf] at h
    have h2 : e.2.1 = (ty, k, fin, oks) := Option.some.inj h
    have hp := List.find?_some hf
    simp only [Bool.and_eq_true, beq_iff_eq] at hp
    have hc := List.all_eq_true.mp zFt_ok e (List.mem_of_find?_eq_some hf)
    unfold zFc at hc
    have hc := List.all_eq_true.mp hc kd (by rw [h2]; exact hkd)
    rw [h2] at hc
    split at hc
    · cases hc
    · rename_i r hr
      simp only [Bool.and_eq_true, decide_eq_true_eq, Bool.or_eq_true, beq_iff_eq] at hc
      obtain ⟨⟨⟨⟨a1, a2⟩, a3⟩, a4⟩, a5⟩ := hc
      rw [hp.1, hp.2] at a4
      refine ⟨r, _, hr, a1, a2, a3, zTG_in a4 rfl, ?_⟩
      rcases a5 with q | q
      · exact Or.inl q
      · exact Or.inr (zTG_in q rfl)

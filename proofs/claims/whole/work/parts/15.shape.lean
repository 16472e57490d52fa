/-! THE CELLS, when both constructors are through: 0 FindersHide, 1 Text, 2 its bytes, 3 .. 25 and 26 .. 48 the two Towns, 49 .., 55 .., 69 .., 75 .. the States (state, trial, images), 61 images, 62 kept, 63 Chances, 64 .. 67 its arrays, 68 kinds, 81 .. 86 the kinds, 87 the model, 88 .. 97 its arrays -/
/-- the c-th cell of a Town -/
def tc (x : Bool) (c : Nat) : Nat := (if x then 26 else 3) + min c 22
/-- the c-th cell of a State: 0 state, 1 trial, 2 and 3 the images -/
def sc (k : Nat) (c : Nat) : Nat := (match k with
  | 0 => 49
  | 1 => 55
  | 2 => 69
  | _ => 75) + min c 5
def sgT : List (Nat × Nat) := [(9, 15), (20, 6), (20, 6), (20, 6), (20, 6), (20, 6), (20, 4), (20, 4), (25, 4), (20, 5), (20, 5), (20, 5), (20, 5), (25, 4), (20, 5), (20, 5), (20, 5), (20, 5), (25, 4), (20, 5), (20, 5), (20, 5), (20, 5)]
def sgS : List (Nat × Nat) := [(7, 9), (20, 4), (20, 4), (20, 8), (20, 8), (20, 8)]
def sgl : List (Nat × Nat) := [(10, 9), (8, 8), (20, 200)] ++ sgT ++ sgT ++ sgS ++ sgS ++ [(23, 2), (21, 2), (0, 4), (22, 6), (22, 6), (22, 6), (20, 4), (24, 6)] ++ sgS ++ sgS ++ [(6, 1), (2, 1), (1, 1), (3, 1), (5, 1), (4, 1), (11, 20), (20, 200), (20, 49), (20, 49), (20, 36), (20, 72), (21, 2), (20, 4), (22, 3750), (22, 3750), (20, 2)]
def sg : zSh := (98, fun a => sgl.getD a (0, 0))
/-- the references: of one cell -/
def rgt (t : Nat) (c j : Nat) : Option Nat := match c with
  | 0 => ([none, none, none, none, none, some (t + 1), some (t + 2), some (t + 3), some (t + 4), some (t + 5), some (t + 6), some (t + 7), some (t + 8), some (t + 13), some (t + 18)] : List (Option Nat)).getD j none
  | 8 => if j < 4 then some (t + 9 + j) else none
  | 13 => if j < 4 then some (t + 14 + j) else none
  | 18 => if j < 4 then some (t + 19 + j) else none
  | _ => none
def rgs (t : Nat) (j : Nat) : Option Nat := ([none, none, none, none, some (t + 1), some (t + 2), some (t + 3), some (t + 4), some (t + 5)] : List (Option Nat)).getD j none
def rg (b : Bool) : zRf := fun a j =>
  if 3 ≤ a ∧ a < 26 then rgt 3 (a - 3) j
  else if 26 ≤ a ∧ a < 49 then rgt 26 (a - 26) j
  else if a = 49 ∨ a = 55 ∨ a = 69 ∨ a = 75 then rgs a j
  else match a with
    | 0 => ([some 1, some (tc b 0), some (tc (!b) 0), some 49, some 55, some 61, some 62, some 63, some 68] : List (Option Nat)).getD j none
    | 1 => if j = 1 then some 2 else none
    | 61 => ([some 69, some 75] : List (Option Nat)).getD j none
    | 63 => ([some 64, some 65, some 66, some 67] : List (Option Nat)).getD j none
    | 68 => if j < 6 then some (81 + j) else none
    | 87 => ([none, none, some 88, none, some 89, some 90, some 91, some 92, some 93, none, none, none, none, none, some 94, none, none, some 95, some 96, some 97] : List (Option Nat)).getD j none
    | _ => none
theorem tc_lt {x c} : tc x c < sg.1 := by unfold tc; show _ < 98; cases x <;> simp <;> omega
theorem sc_lt {k c} : sc k c < sg.1 := by unfold sc; show _ < 98; split <;> omega
theorem tc0_in {x} : (sg.2 (tc x 0)).1 ∈ [9] := by cases x <;> decide
theorem tc0_k {x} : (sg.2 (tc x 0)).1 = 9 := by cases x <;> decide
theorem sc_at {k} {P : Nat → Prop} {c : Nat} (hc : c ≤ 5) (h0 : P (49 + c)) (h1 : P (55 + c)) (h2 : P (69 + c)) (h3 : P (75 + c)) : P (sc k c) := by
  have e : min c 5 = c := by omega
  unfold sc; rw [e]; split <;> assumption
theorem sc0_in {k} : (sg.2 (sc k 0)).1 ∈ [7] := sc_at (P := fun a => (sg.2 a).1 ∈ [7]) (c := 0) (by decide) (by decide) (by decide) (by decide) (by decide)
theorem sc0_k {k} : (sg.2 (sc k 0)).1 = 7 := sc_at (P := fun a => (sg.2 a).1 = 7) (c := 0) (by decide) (by decide) (by decide) (by decide) (by decide)
theorem tc_7 {x c} : tc x c ≠ 7000 := fun h => by have := @tc_lt x c; rw [h] at this; exact absurd this (by decide)
theorem sc_7 {k c} : sc k c ≠ 7000 := fun h => by have := @sc_lt k c; rw [h] at this; exact absurd this (by decide)
theorem zin_at {a kd n : Nat} {i : Int32} (h1 : a < sg.1) (h2 : sg.2 a = (kd, n)) : zin sg a kd i = vp_in i n := by
  unfold zin; rw [h2]; exact propext ⟨fun h => h.2.2, fun h => ⟨h1, rfl, h⟩⟩
theorem tcs {x c} (hc : c ≤ 22) : sg.2 (tc x c) = sgT.getD c (0, 0) := by
  have h : ∀ c, c ≤ 22 → ∀ x, sg.2 (tc x c) = sgT.getD c (0, 0) := by decide +kernel
  exact h c hc x
theorem scs {k c} (hc : c ≤ 5) : sg.2 (sc k c) = sgS.getD c (0, 0) := by
  have h : ∀ c, c ≤ 5 → sg.2 (49 + c) = sgS.getD c (0, 0) ∧ sg.2 (55 + c) = sgS.getD c (0, 0) ∧ sg.2 (69 + c) = sgS.getD c (0, 0) ∧ sg.2 (75 + c) = sgS.getD c (0, 0) := by decide +kernel
  obtain ⟨a, b, d, e⟩ := h c hc
  exact sc_at (P := fun a => sg.2 a = sgS.getD c (0, 0)) hc a b d e
theorem zin_t {x c n} {i : Int32} (hc : c ≤ 22) (h : sgT.getD c (0, 0) = (20, n)) : zin sg (tc x c) 20 i = vp_in i n := zin_at tc_lt ((tcs hc).trans h)
theorem zin_s {k c n} {i : Int32} (hc : c ≤ 5) (h : sgS.getD c (0, 0) = (20, n)) : zin sg (sc k c) 20 i = vp_in i n := zin_at sc_lt ((scs hc).trans h)
theorem zin_tr {x c} {i : Int32} (h : (9 ≤ c ∧ c ≤ 12) ∨ (14 ≤ c ∧ c ≤ 17) ∨ (19 ≤ c ∧ c ≤ 22)) : zin sg (tc x c) 20 i = vp_in i 5 := by
  have hh : ∀ c, c ≤ 22 → ((9 ≤ c ∧ c ≤ 12) ∨ (14 ≤ c ∧ c ≤ 17) ∨ (19 ≤ c ∧ c ≤ 22)) → sgT.getD c (0, 0) = (20, 5) := by decide +kernel
  exact zin_t (by omega) (hh c (by omega) h)
theorem rg_t0 {b x j} : rg b (tc x 0) j = rgt (tc x 0) 0 j := by cases x <;> rfl
theorem rg_tf {b x j o} (h : ∀ t, rgt t 0 j = some (t + o)) (ho : o ≤ 22) : rg b (tc x 0) j = some (tc x o) := by
  rw [rg_t0, h]
  unfold tc
  rw [show min 0 22 = 0 by omega, show min o 22 = o by omega, Nat.add_zero]
theorem rg_tr {b x c j} (hc : c = 8 ∨ c = 13 ∨ c = 18) (hj : j < 4) : rg b (tc x c) j = some (tc x (c + 1 + j)) := by
  have hm : min (c + 1 + j) 22 = c + 1 + j := by omega
  unfold tc
  rw [hm]
  have hj4 : j = 0 ∨ j = 1 ∨ j = 2 ∨ j = 3 := by omega
  rcases hc with rfl | rfl | rfl <;> rcases hj4 with rfl | rfl | rfl | rfl <;> cases x <;> rfl
theorem rg_s0 {b k j} : rg b (sc k 0) j = rgs (sc k 0) j := sc_at (P := fun a => rg b a j = rgs a j) (c := 0) (by decide) rfl rfl rfl rfl
theorem rg_sf {b k j o} (h : ∀ t, rgs t j = some (t + o)) (ho : o ≤ 5) : rg b (sc k 0) j = some (sc k o) := by
  rw [rg_s0, h]
  unfold sc
  rw [show min 0 5 = 0 by omega, show min o 5 = o by omega, Nat.add_zero]
theorem rg_61 {b j} (hj : j < 2) : rg b 61 j = some (sc (2 + j) 0) := by
  have : j = 0 ∨ j = 1 := by omega
  rcases this with rfl | rfl <;> rfl
theorem rg_68 {b j} (hj : j < 6) : rg b 68 j = some (81 + j) := by
  show (if j < 6 then some (81 + j) else none) = _
  rw [if_pos hj]
/-- the towns change places -/
theorem rg_swap (b : Bool) : zup (zup (rg b) 0 2 (some (tc b 0))) 0 1 (some (tc (!b) 0)) = rg (!b) := by
  funext a j
  unfold zup
  by_cases h0 : a = 0
  · subst h0
    by_cases h1 : j = 1
    · subst h1; cases b <;> rfl
    · by_cases h2 : j = 2
      · subst h2; cases b <;> rfl
      · rw [if_neg (fun q => h1 q.2), if_neg (fun q => h2 q.2)]
        match j, h1, h2 with
        | 0, _, _ => rfl
        | j + 3, _, _ => rfl
  · rw [if_neg (fun q => h0 q.1), if_neg (fun q => h0 q.1)]
    have : ∀ b', rg b' a j = rg b a j := by
      intro b'
      unfold rg
      split
      · rfl
      · split
        · rfl
        · split
          · rfl
          · split <;> first | rfl | (exact absurd rfl h0)
    exact (this _).symm
/-! cells apart -/
theorem tc_eq {x c c'} (h : c ≤ 22) (h' : c' ≤ 22) : (tc x c = tc x c') = (c = c') := by
  unfold tc; rw [show min c 22 = c by omega, show min c' 22 = c' by omega]; exact propext ⟨fun q => by omega, fun q => by omega⟩
theorem tc_nn {x c c'} : (tc x c = tc (!x) c') = False := by
  unfold tc; refine eq_false fun q => ?_; cases x <;> simp at q <;> omega
theorem tc_nn' {x c c'} : (tc (!x) c = tc x c') = False := by
  unfold tc; refine eq_false fun q => ?_; cases x <;> simp at q <;> omega
theorem tc_lit {x c n} (h : n < 3 ∨ 48 < n) : (tc x c = n) = False := by
  unfold tc; refine eq_false fun q => ?_; cases x <;> simp at q <;> omega
theorem lit_tc {x c n} (h : n < 3 ∨ 48 < n) : (n = tc x c) = False := by
  unfold tc; refine eq_false fun q => ?_; cases x <;> simp at q <;> omega
theorem sc_eqc {k c c'} (h : c ≤ 5) (h' : c' ≤ 5) : (sc k c = sc k c') = (c = c') := by
  unfold sc; rw [show min c 5 = c by omega, show min c' 5 = c' by omega]; exact propext ⟨fun q => by omega, fun q => by omega⟩
theorem sc_r (k c : Nat) : 49 ≤ sc k c ∧ sc k c ≤ 80 ∧ ¬ (61 ≤ sc k c ∧ sc k c ≤ 68) := by unfold sc; split <;> omega
theorem tc_r (x : Bool) (c : Nat) : 3 ≤ tc x c ∧ tc x c ≤ 48 := by unfold tc; cases x <;> simp <;> omega
theorem sc_lit {k c n} (h : n < 49 ∨ 80 < n ∨ 61 ≤ n ∧ n ≤ 68) : (sc k c = n) = False := eq_false fun q => by have := sc_r k c; omega
theorem lit_sc {k c n} (h : n < 49 ∨ 80 < n ∨ 61 ≤ n ∧ n ≤ 68) : (n = sc k c) = False := eq_false fun q => by have := sc_r k c; omega
theorem tc_sc {x c k c'} : (tc x c = sc k c') = False := eq_false fun q => by have := sc_r k c'; have := tc_r x c; omega
theorem sc_tc {x c k c'} : (sc k c' = tc x c) = False := eq_false fun q => by have := sc_r k c'; have := tc_r x c; omega
theorem sc_ne {k k' c c'} (h : k ≠ k') (hk : k < 4) (hk' : k' < 4) : (sc k c = sc k' c') = False := by
  refine eq_false fun q => ?_
  have e : k = 0 ∨ k = 1 ∨ k = 2 ∨ k = 3 := by omega
  have e' : k' = 0 ∨ k' = 1 ∨ k' = 2 ∨ k' = 3 := by omega
  unfold sc at q
  rcases e with rfl | rfl | rfl | rfl <;> rcases e' with rfl | rfl | rfl | rfl <;> first | exact absurd rfl h | (simp at q; omega)
theorem zup_app {α : Type} (f : Nat → Nat → α) (c k : Nat) (v : α) (a j : Nat) : zup f c k v a j = if a = c ∧ j = k then v else f a j := rfl
theorem znw_i {x : Int32} : znw x .int = True := eq_true rfl
theorem znw_0 : znw (nI 0) .boolean = True := eq_true rfl
theorem znw_1 : znw (nI 1) .boolean = True := eq_true rfl
theorem znw_z {p : Prop} [Decidable p] : znw (if p then nI 1 else nI 0) .boolean = True := eq_true (by split <;> rfl)
theorem oi_iret {d : Nat} {mm : zM} {Q : zPo} {pc : Nat} {ls : zLo} {σ : zSh} {ρ : zRf} {I : zIm} {L : zLm} {x : Int32} (hd : decode mm.2.1 pc = .ok (.ireturn, 1)) (hr : mm.2.2.2.1 = some .int) : zq d mm Q pc ls [.int x] σ ρ I L = Q (some (.int x)) σ ρ I L :=
  (oi_ireturn hd hr).trans (propext ⟨fun h => h.2, fun h => ⟨of_eq_true znw_i, h⟩⟩)

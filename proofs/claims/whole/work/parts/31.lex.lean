/-! THE TEXT's tokens -/
def srt (bt : Nat → Fin 256) (n k : Nat) : Nat := if k < n then (if 97 ≤ (bt k).val ∧ (bt k).val ≤ 122 then 1 else if 48 ≤ (bt k).val ∧ (bt k).val ≤ 57 then 2 else if (bt k).val = 59 then 3 else 4) else 0
theorem srt_le (bt : Nat → Fin 256) (n k : Nat) : srt bt n k ≤ 4 := by
  unfold srt; split
  · split
    · decide
    · split
      · decide
      · split <;> decide
  · decide
theorem srt_0 {bt : Nat → Fin 256} {n k : Nat} : srt bt n k = 0 ↔ n ≤ k := by
  unfold srt
  constructor
  · intro h
    by_cases c : k < n
    · rw [if_pos c] at h
      split at h
      · omega
      · split at h
        · omega
        · split at h <;> omega
    · omega
  · intro h; rw [if_neg (by omega)]
theorem srt_1 {bt : Nat → Fin 256} {n k : Nat} : srt bt n k = 1 ↔ k < n ∧ 97 ≤ (bt k).val ∧ (bt k).val ≤ 122 := by
  unfold srt
  by_cases c : k < n
  · rw [if_pos c]
    by_cases c1 : 97 ≤ (bt k).val ∧ (bt k).val ≤ 122
    · rw [if_pos c1]; exact ⟨fun _ => ⟨c, c1⟩, fun _ => rfl⟩
    · rw [if_neg c1]
      constructor
      · intro h; split at h
        · omega
        · split at h <;> omega
      · intro h; exact absurd h.2 c1
  · rw [if_neg c]
    exact ⟨fun h => by omega, fun h => absurd h.1 c⟩
theorem srt_2 {bt : Nat → Fin 256} {n k : Nat} : srt bt n k = 2 ↔ k < n ∧ 48 ≤ (bt k).val ∧ (bt k).val ≤ 57 := by
  unfold srt
  by_cases c : k < n
  · rw [if_pos c]
    by_cases c1 : 97 ≤ (bt k).val ∧ (bt k).val ≤ 122
    · rw [if_pos c1]; exact ⟨fun h => by omega, fun h => by omega⟩
    · rw [if_neg c1]
      by_cases c2 : 48 ≤ (bt k).val ∧ (bt k).val ≤ 57
      · rw [if_pos c2]; exact ⟨fun _ => ⟨c, c2⟩, fun _ => rfl⟩
      · rw [if_neg c2]
        constructor
        · intro h; split at h <;> omega
        · intro h; exact absurd h.2 c2
  · rw [if_neg c]
    exact ⟨fun h => by omega, fun h => absurd h.1 c⟩
theorem srt_3 {bt : Nat → Fin 256} {n k : Nat} : srt bt n k = 3 ↔ k < n ∧ (bt k).val = 59 := by
  unfold srt
  by_cases c : k < n
  · rw [if_pos c]
    by_cases c1 : 97 ≤ (bt k).val ∧ (bt k).val ≤ 122
    · rw [if_pos c1]; exact ⟨fun h => by omega, fun h => by omega⟩
    · rw [if_neg c1]
      by_cases c2 : 48 ≤ (bt k).val ∧ (bt k).val ≤ 57
      · rw [if_pos c2]; exact ⟨fun h => by omega, fun h => by omega⟩
      · rw [if_neg c2]
        by_cases c3 : (bt k).val = 59
        · rw [if_pos c3]; exact ⟨fun _ => ⟨c, c3⟩, fun _ => rfl⟩
        · rw [if_neg c3]; exact ⟨fun h => by omega, fun h => absurd h.2 c3⟩
  · rw [if_neg c]
    exact ⟨fun h => by omega, fun h => absurd h.1 c⟩
/-- behind the blanks -/
def skp (bt : Nat → Fin 256) (n : Nat) : Nat → Nat → Nat
  | 0, a => a
  | f + 1, a => if a < n ∧ (bt a).val = 32 then skp bt n f (a + 1) else a
theorem skp_s (bt : Nat → Fin 256) (n f a : Nat) : skp bt n (f + 1) a = if a < n ∧ (bt a).val = 32 then skp bt n f (a + 1) else a := rfl
theorem skp_le (bt : Nat → Fin 256) (n : Nat) : ∀ f a, a ≤ n → a ≤ skp bt n f a ∧ skp bt n f a ≤ n
  | 0, a, h => ⟨Nat.le_refl _, h⟩
  | f + 1, a, h => by
    rw [skp_s]; split
    · rename_i c
      have := skp_le bt n f (a + 1) (by omega); omega
    · omega
/-- how far a run goes -/
def rnf (bt : Nat → Fin 256) (n s st : Nat) : Nat → Nat → Nat
  | 0, z => z
  | f + 1, z => if srt bt n (st + z) = s then rnf bt n s st f (z + 1) else z
theorem rnf_s (bt : Nat → Fin 256) (n s st f z : Nat) : rnf bt n s st (f + 1) z = if srt bt n (st + z) = s then rnf bt n s st f (z + 1) else z := rfl
theorem rnf_le {bt : Nat → Fin 256} {n s st : Nat} (hs : s ≠ 0) : ∀ f z, st + z ≤ n → z ≤ rnf bt n s st f z ∧ st + rnf bt n s st f z ≤ n
  | 0, z, h => ⟨Nat.le_refl _, h⟩
  | f + 1, z, h => by
    rw [rnf_s]; split
    · rename_i c
      have h1 : ¬ n ≤ st + z := fun q => hs (by rw [← c]; exact srt_0.2 q)
      have := rnf_le (bt := bt) (n := n) (s := s) (st := st) hs f (z + 1) (by omega); omega
    · omega
theorem rnf_in {bt : Nat → Fin 256} {n s st : Nat} : ∀ f z j, z ≤ j → j < rnf bt n s st f z → srt bt n (st + j) = s
  | 0, z, j, h, h2 => by exact absurd h2 (by show ¬ j < z; omega)
  | f + 1, z, j, h, h2 => by
    rw [rnf_s] at h2
    split at h2
    · rename_i c
      by_cases e : j = z
      · rw [e]; exact c
      · exact rnf_in f (z + 1) j (by omega) h2
    · omega
def tkz (bt : Nat → Fin 256) (n st : Nat) : Nat := if srt bt n st = 0 then 0 else if srt bt n st = 1 ∨ srt bt n st = 2 then rnf bt n (srt bt n st) st n 1 else 1
/-- the token from a on: start, sort, size -/
def tkn (bt : Nat → Fin 256) (n a : Nat) : Nat × Nat × Nat := (skp bt n n a, srt bt n (skp bt n n a), tkz bt n (skp bt n n a))
theorem tkz_le {bt : Nat → Fin 256} {n st : Nat} (h : st ≤ n) : st + tkz bt n st ≤ n ∧ (srt bt n st ≠ 0 → 0 < tkz bt n st) := by
  unfold tkz
  by_cases c : srt bt n st = 0
  · rw [if_pos c]; exact ⟨h, fun q => absurd c q⟩
  · rw [if_neg c]
    have h1 : ¬ n ≤ st := fun q => c (srt_0.2 q)
    split
    · have := rnf_le (bt := bt) (n := n) (s := srt bt n st) (st := st) c n 1 (by omega)
      exact ⟨this.2, fun _ => by omega⟩
    · exact ⟨by omega, fun _ => by decide⟩
theorem tkz_in {bt : Nat → Fin 256} {n st s : Nat} (h : srt bt n st = s) (hs : s = 1 ∨ s = 2) : ∀ j, j < tkz bt n st → srt bt n (st + j) = s := by
  intro j hj
  unfold tkz at hj
  rw [if_neg (by omega), if_pos (by omega)] at hj
  by_cases e : j = 0
  · rw [e]; exact h
  · rw [h] at hj; exact rnf_in n 1 j (by omega) hj
/-- which word -/
def vrb (bt : Nat → Fin 256) (t : Nat × Nat × Nat) : Option Nat :=
  if t.2.1 = 1 then
    if t.2.2 = 5 ∧ (bt t.1).val = 112 ∧ (bt (t.1 + 1)).val = 108 ∧ (bt (t.1 + 2)).val = 97 ∧ (bt (t.1 + 3)).val = 99 ∧ (bt (t.1 + 4)).val = 101 then some 0
    else if t.2.2 = 6 ∧ (bt t.1).val = 115 ∧ (bt (t.1 + 1)).val = 101 ∧ (bt (t.1 + 2)).val = 101 ∧ (bt (t.1 + 3)).val = 107 ∧ (bt (t.1 + 4)).val = 101 ∧ (bt (t.1 + 5)).val = 114 then some 1
    else if t.2.2 = 4 ∧ (bt t.1).val = 114 ∧ (bt (t.1 + 1)).val = 105 ∧ (bt (t.1 + 2)).val = 110 ∧ (bt (t.1 + 3)).val = 103 then some 2
    else if t.2.2 = 3 ∧ (bt t.1).val = 108 ∧ (bt (t.1 + 1)).val = 97 ∧ (bt (t.1 + 2)).val = 119 then some 3
    else none
  else none
/-- which number -/
def fig (bt : Nat → Fin 256) (t : Nat × Nat × Nat) : Option Nat :=
  if t.2.1 = 2 ∧ (t.2.2 = 1 ∨ t.2.2 = 2 ∧ 48 < (bt t.1).val) then some (if t.2.2 = 2 then 10 * ((bt t.1).val - 48) + ((bt (t.1 + 1)).val - 48) else (bt t.1).val - 48) else none
/-! what is read so far: the town, the ring, whether ring and law were told -/
def zD : Type := zT × Nat × Bool × Bool
def dT (D : zD) : zT := D.1
def dR (D : zD) : Nat := D.2.1
def dr (D : zD) : Bool := D.2.2.1
def dl (D : zD) : Bool := D.2.2.2
def adP (D : zD) (v : Nat) : zD := ((Fin.ofNat 7 ((tpn (dT D)).val + 1), tsn (dT D), tlw (dT D), pup (thd (dT D)) (tpn (dT D)).val (Fin.ofNat 10 v), tmn (dT D), tln (dT D), thb (dT D)), dR D, dr D, dl D)
def adS (D : zD) (v c : Nat) (h : Nat → Fin 6) : zD := ((tpn (dT D), Fin.ofNat 5 ((tsn (dT D)).val + 1), tlw (dT D), thd (dT D), pup (tmn (dT D)) (tsn (dT D)).val (Fin.ofNat 31 v), pup (tln (dT D)) (tsn (dT D)).val (Fin.ofNat 6 c), pup (thb (dT D)) (tsn (dT D)).val h), dR D, dr D, dl D)
def adR (D : zD) (v : Nat) : zD := (dT D, v, true, dl D)
def adL (D : zD) (v : Nat) : zD := ((tpn (dT D), tsn (dT D), Fin.ofNat 3 v, thd (dT D), tmn (dT D), tln (dT D), thb (dT D)), dR D, dr D, true)
/-- a habit's places: how many are read, which, and the token behind them -/
def pha (bt : Nat → Fin 256) (n np : Nat) : Nat → Nat → (Nat → Fin 6) → Nat × Nat × Nat → Bool × Nat × (Nat → Fin 6) × (Nat × Nat × Nat)
  | 0, c, h, t => (true, c, h, t)
  | f + 1, c, h, t => match fig bt t with
    | some v => if v < np then pha bt n np f (c + 1) (pup h c (Fin.ofNat 6 v)) (tkn bt n (t.1 + t.2.2)) else (false, c, h, t)
    | none => (true, c, h, t)
/-- an item: whether it can be read, what is told then, the token that was read last -/
def pit (bt : Nat → Fin 256) (n : Nat) (D : zD) (t : Nat × Nat × Nat) : Bool × zD × (Nat × Nat × Nat) :=
  match vrb bt t with
  | some 0 => if (tpn (dT D)).val = 6 then (false, D, t) else
      match fig bt (tkn bt n (t.1 + t.2.2)) with
      | some v => if 1 ≤ v ∧ v ≤ 9 then (decide ((tkn bt n ((tkn bt n (t.1 + t.2.2)).1 + (tkn bt n (t.1 + t.2.2)).2.2)).2.1 = 3), adP D v, tkn bt n ((tkn bt n (t.1 + t.2.2)).1 + (tkn bt n (t.1 + t.2.2)).2.2)) else (false, D, tkn bt n (t.1 + t.2.2))
      | none => (false, D, tkn bt n (t.1 + t.2.2))
  | some 1 => if (tsn (dT D)).val = 4 then (false, D, t) else
      match fig bt (tkn bt n (t.1 + t.2.2)) with
      | some v => if v ≤ 30 then
          ((pha bt n (tpn (dT D)) 5 0 (thb (dT D) (tsn (dT D))) (tkn bt n ((tkn bt n (t.1 + t.2.2)).1 + (tkn bt n (t.1 + t.2.2)).2.2))).1 && (decide (0 < (pha bt n (tpn (dT D)) 5 0 (thb (dT D) (tsn (dT D))) (tkn bt n ((tkn bt n (t.1 + t.2.2)).1 + (tkn bt n (t.1 + t.2.2)).2.2))).2.1) && decide ((pha bt n (tpn (dT D)) 5 0 (thb (dT D) (tsn (dT D))) (tkn bt n ((tkn bt n (t.1 + t.2.2)).1 + (tkn bt n (t.1 + t.2.2)).2.2))).2.2.2.2.1 = 3)),
            adS D v (pha bt n (tpn (dT D)) 5 0 (thb (dT D) (tsn (dT D))) (tkn bt n ((tkn bt n (t.1 + t.2.2)).1 + (tkn bt n (t.1 + t.2.2)).2.2))).2.1 (pha bt n (tpn (dT D)) 5 0 (thb (dT D) (tsn (dT D))) (tkn bt n ((tkn bt n (t.1 + t.2.2)).1 + (tkn bt n (t.1 + t.2.2)).2.2))).2.2.1,
            (pha bt n (tpn (dT D)) 5 0 (thb (dT D) (tsn (dT D))) (tkn bt n ((tkn bt n (t.1 + t.2.2)).1 + (tkn bt n (t.1 + t.2.2)).2.2))).2.2.2) else (false, D, tkn bt n (t.1 + t.2.2))
      | none => (false, D, tkn bt n (t.1 + t.2.2))
  | some 2 => if dr D = true then (false, D, t) else
      match fig bt (tkn bt n (t.1 + t.2.2)) with
      | some v => if v < (tpn (dT D)).val then (decide ((tkn bt n ((tkn bt n (t.1 + t.2.2)).1 + (tkn bt n (t.1 + t.2.2)).2.2)).2.1 = 3), adR D v, tkn bt n ((tkn bt n (t.1 + t.2.2)).1 + (tkn bt n (t.1 + t.2.2)).2.2)) else (false, D, tkn bt n (t.1 + t.2.2))
      | none => (false, D, tkn bt n (t.1 + t.2.2))
  | some 3 => if dl D = true then (false, D, t) else
      match fig bt (tkn bt n (t.1 + t.2.2)) with
      | some v => if v ≤ 2 then (decide ((tkn bt n ((tkn bt n (t.1 + t.2.2)).1 + (tkn bt n (t.1 + t.2.2)).2.2)).2.1 = 3), adL D v, tkn bt n ((tkn bt n (t.1 + t.2.2)).1 + (tkn bt n (t.1 + t.2.2)).2.2)) else (false, D, tkn bt n (t.1 + t.2.2))
      | none => (false, D, tkn bt n (t.1 + t.2.2))
  | _ => (false, D, t)
/-- the whole text: whether it can be read, items, what is told, the token read last -/
def ptx (bt : Nat → Fin 256) (n : Nat) : Nat → Nat → zD → Nat × Nat × Nat → Bool × Nat × zD × (Nat × Nat × Nat)
  | 0, it, D, t => (false, it, D, t)
  | f + 1, it, D, t => if t.2.1 = 0 then (true, it, D, t) else if (pit bt n D t).1 = true then ptx bt n f (it + 1) (pit bt n D t).2.1 (tkn bt n ((pit bt n D t).2.2.1 + (pit bt n D t).2.2.2.2)) else (false, it, D, (pit bt n D t).2.2)
theorem ptx_s (bt : Nat → Fin 256) (n f it : Nat) (D : zD) (t : Nat × Nat × Nat) : ptx bt n (f + 1) it D t = if t.2.1 = 0 then (true, it, D, t) else if (pit bt n D t).1 = true then ptx bt n f (it + 1) (pit bt n D t).2.1 (tkn bt n ((pit bt n D t).2.2.1 + (pit bt n D t).2.2.2.2)) else (false, it, D, (pit bt n D t).2.2) := rfl

/-! THE ORDER of the places: each rank is one place's -/
theorem pig : ∀ (n : Nat) (f : Nat → Nat), (∀ p, p < n → f p < n) → (∀ p q, p < n → q < n → f p = f q → p = q) → ∀ i, i < n → ∃ p, p < n ∧ f p = i
  | 0, _, _, _, i, hi => absurd hi (Nat.not_lt_zero i)
  | n + 1, f, h1, h2, i, hi => by
    have hg1 : ∀ p, p < n → (if f p = n then f n else f p) < n := by
      intro p hp
      have a1 := h1 p (by omega)
      have a2 := h1 n (by omega)
      have a3 : f p ≠ f n := fun q => by have := h2 p n (by omega) (by omega) q; omega
      split <;> omega
    have hg2 : ∀ p q, p < n → q < n → (if f p = n then f n else f p) = (if f q = n then f n else f q) → p = q := by
      intro p q hp hq e
      have a3 : f p ≠ f n := fun q => by have := h2 p n (by omega) (by omega) q; omega
      have a4 : f q ≠ f n := fun e => by have := h2 q n (by omega) (by omega) e; omega
      by_cases c1 : f p = n
      · by_cases c2 : f q = n
        · exact h2 p q (by omega) (by omega) (by omega)
        · rw [if_pos c1, if_neg c2] at e; exact absurd e.symm a4
      · by_cases c2 : f q = n
        · rw [if_neg c1, if_pos c2] at e; exact absurd e a3
        · rw [if_neg c1, if_neg c2] at e; exact h2 p q (by omega) (by omega) e
    by_cases ei : i = f n
    · exact ⟨n, by omega, ei.symm⟩
    · have a2 := h1 n (by omega)
      by_cases en : i = n
      · obtain ⟨p, hp, e⟩ := pig n _ hg1 hg2 (f n) (by omega)
        have a3 : f p ≠ f n := fun q => by have := h2 p n (by omega) (by omega) q; omega
        by_cases c1 : f p = n
        · exact ⟨p, by omega, by omega⟩
        · simp only [if_neg c1] at e; exact absurd e a3
      · obtain ⟨p, hp, e⟩ := pig n _ hg1 hg2 i (by omega)
        by_cases c1 : f p = n
        · simp only [if_pos c1] at e; exact absurd e.symm ei
        · simp only [if_neg c1] at e; exact ⟨p, by omega, e⟩
/-- q goes ahead of p -/
def pre (T : zT) (q p : Nat) : Prop := (thd T q).val < (thd T p).val ∨ (thd T q).val = (thd T p).val ∧ q < p
theorem trq_y {T : zT} {p q : Nat} (h : pre T q p) : trq T p (q + 1) = trq T p q + 1 := by
  rw [trq_s]
  rcases h with h | h
  · rw [if_pos h]
  · rw [if_neg (by omega), if_pos h.1, if_pos h.2]
theorem trq_n {T : zT} {p q : Nat} (h : ¬ pre T q p) : trq T p (q + 1) = trq T p q := by
  have h1 : ¬ (thd T q).val < (thd T p).val := fun c => h (Or.inl c)
  rw [trq_s, if_neg h1]
  by_cases c : (thd T q).val = (thd T p).val
  · rw [if_pos c, if_neg (fun c2 => h (Or.inr ⟨c, c2⟩))]
  · rw [if_neg c]
theorem pre_t {T : zT} {x p q : Nat} (h : pre T p q) (h2 : pre T x p) : pre T x q := by unfold pre at *; omega
theorem pre_c {T : zT} {p q : Nat} (h : p ≠ q) : pre T p q ∨ pre T q p := by unfold pre; omega
theorem trq_m {T : zT} {p q : Nat} (h : pre T p q) : ∀ m, trq T p m + (if p < m then 1 else 0) ≤ trq T q m
  | 0 => Nat.le_refl _
  | m + 1 => by
    have ih := trq_m h m
    by_cases e : m = p
    · subst e
      have n1 : ¬ pre T m m := by unfold pre; omega
      rw [trq_n n1, trq_y h, if_pos (by omega)]
      rw [if_neg (by omega)] at ih
      omega
    · have e2 : (if p < m + 1 then 1 else 0) = (if p < m then 1 else 0) := by
        by_cases c : p < m
        · rw [if_pos c, if_pos (by omega)]
        · rw [if_neg c, if_neg (by omega)]
      rw [e2]
      by_cases c : pre T m p
      · rw [trq_y c, trq_y (pre_t h c)]; omega
      · rw [trq_n c]
        by_cases c2 : pre T m q
        · rw [trq_y c2]; omega
        · rw [trq_n c2]; exact ih
theorem trk_i {T : zT} {p q : Nat} (hp : p < (tpn T).val) (hq : q < (tpn T).val) (e : trk T p = trk T q) : p = q := by
  by_cases c : p = q
  · exact c
  · unfold trk at e
    rcases pre_c (T := T) c with h | h
    · have := trq_m h (tpn T).val; rw [if_pos hp] at this; omega
    · have := trq_m h (tpn T).val; rw [if_pos hq] at this; omega
theorem trq_lt {T : zT} {p : Nat} : ∀ m, trq T p m + (if p < m then 1 else 0) ≤ m
  | 0 => Nat.le_refl _
  | m + 1 => by
    have ih := trq_lt (T := T) (p := p) m
    by_cases e : m = p
    · subst e
      have n1 : ¬ pre T m m := by unfold pre; omega
      rw [trq_n n1, if_pos (by omega)]
      rw [if_neg (by omega)] at ih
      omega
    · have e2 : (if p < m + 1 then 1 else 0) = (if p < m then 1 else 0) := by
        by_cases c : p < m
        · rw [if_pos c, if_pos (by omega)]
        · rw [if_neg c, if_neg (by omega)]
      rw [e2]
      by_cases c : pre T m p
      · rw [trq_y c]; omega
      · rw [trq_n c]; omega
theorem trk_lt {T : zT} {p : Nat} (h : p < (tpn T).val) : trk T p < (tpn T).val := by
  have := trq_lt (T := T) (p := p) (tpn T).val
  rw [if_pos h] at this
  unfold trk; omega
theorem trk_at {T : zT} {i : Nat} (h : i < (tpn T).val) : ∃ p, p < (tpn T).val ∧ trk T p = i := pig _ (trk T) (fun _ hp => trk_lt hp) (fun _ _ hp hq e => trk_i hp hq e) i h
theorem tor_e {T : zT} {i : Nat} : ∀ n q, tor T i n = some q → q < n ∧ trk T q = i
  | 0, _, h => by cases h
  | n + 1, q, h => by
    rw [tor_s] at h
    by_cases c : trk T n = i
    · rw [if_pos c] at h; cases h; exact ⟨Nat.lt_succ_self _, c⟩
    · rw [if_neg c] at h; have := tor_e n q h; exact ⟨by omega, this.2⟩
theorem tor_y {T : zT} {i p : Nat} (hi : trk T p = i) : ∀ n, p < n → ∃ q, tor T i n = some q
  | 0, h => absurd h (Nat.not_lt_zero _)
  | n + 1, h => by
    rw [tor_s]
    by_cases c : trk T n = i
    · rw [if_pos c]; exact ⟨_, rfl⟩
    · rw [if_neg c]
      have : p ≠ n := fun q => c (q ▸ hi)
      exact tor_y hi n (by omega)
theorem tor_p {T : zT} {i p : Nat} (hp : p < (tpn T).val) (hi : trk T p = i) : tor T i (tpn T) = some p := by
  obtain ⟨q, hq⟩ := tor_y hi (tpn T).val hp
  obtain ⟨q1, q2⟩ := tor_e _ _ hq
  rw [hq, trk_i q1 hp (q2.trans hi.symm)]
theorem tor_g {T : zT} {i : Nat} (h : (tpn T).val ≤ i) : tor T i (tpn T) = none := by
  cases e : tor T i (tpn T) with
  | none => rfl
  | some q =>
    obtain ⟨q1, q2⟩ := tor_e _ _ e
    have := trk_lt q1; omega
/-- MINUTES till FIRST finds it, summed up -/
theorem sN_add {f g : Nat → Nat} : ∀ n, sN (fun i => f i + g i) n = sN f n + sN g n
  | 0 => rfl
  | n + 1 => by rw [sN_s, sN_s, sN_s, sN_add n]; omega
theorem sN_sw {f : Nat → Nat → Nat} (m : Nat) : ∀ n, sN (fun i => sN (fun j => f i j) m) n = sN (fun j => sN (fun i => f i j) n) m
  | 0 => (sN_0 m).symm
  | n + 1 => by rw [sN_s, sN_sw m n, ← sN_add]; rfl
theorem sN_1 {f : Nat → Nat} {e : Nat} {n : Nat} (he : e < n) (h : ∀ i, i < n → i ≠ e → f i = 0) : sN f n = f e := by
  have := sN_up (f := fun _ => 0) (g := f) (e := e) (x := f e) n he h (by omega)
  rw [sN_0] at this; omega
/-- summed by rank or by place -/
theorem sN_rk {T : zT} (F : Nat → Nat → Nat) {o : Nat → Nat} (ho : ∀ i, i < (tpn T).val → o i < (tpn T).val ∧ trk T (o i) = i) : sN (fun p => F p (trk T p)) (tpn T) = sN (fun i => F (o i) i) (tpn T) := by
  have h1 : sN (fun p => F p (trk T p)) (tpn T) = sN (fun p => sN (fun i => if trk T p = i then F p i else 0) (tpn T)) (tpn T) := by
    refine sN_cg _ (fun p hp => ?_)
    rw [sN_1 (e := trk T p) (trk_lt hp) (fun i hi hne => if_neg (fun q => hne q.symm)), if_pos rfl]
  rw [h1, sN_sw]
  refine sN_cg _ (fun i hi => ?_)
  obtain ⟨o1, o2⟩ := ho i hi
  rw [sN_1 (e := o i) o1 (fun p hp hne => if_neg (fun q => hne (trk_i hp o1 (q.trans o2.symm)))), if_pos o2]
theorem tsw_n (T : zT) : ∀ p, tsw T p = sN (fun p => (thd T p).val * ((tpn T).val - trk T p)) p
  | 0 => rfl
  | p + 1 => by rw [tsw_s, sN_s, tsw_n T p]
/-- a sum of sums -/
theorem sN_ss {g : Nat → Nat} : ∀ n m, n ≤ m → sN (fun i => sN g (i + 1)) n + sN g n * (m - n) = sN (fun i => g i * (m - i)) n
  | 0, m, _ => by show 0 + 0 * (m - 0) = 0; rw [Nat.zero_mul]
  | n + 1, m, h => by
    have ih := sN_ss (g := g) n m (by omega)
    rw [sN_s, sN_s (fun i => g i * (m - i)), ← ih]
    obtain ⟨k, rfl⟩ : ∃ k, m = n + 1 + k := ⟨m - (n + 1), by omega⟩
    rw [show n + 1 + k - (n + 1) = k by omega, show n + 1 + k - n = k + 1 by omega, sN_s, Nat.mul_add, Nat.add_mul, Nat.mul_add]
    omega
theorem tsw_o {T : zT} {o : Nat → Nat} (ho : ∀ i, i < (tpn T).val → o i < (tpn T).val ∧ trk T (o i) = i) : tsw T (tpn T) = sN (fun i => sN (fun j => (thd T (o j)).val) (i + 1)) (tpn T) := by
  rw [tsw_n, sN_rk (fun p i => (thd T p).val * ((tpn T).val - i)) ho]
  have := sN_ss (g := fun j => (thd T (o j)).val) (tpn T).val (tpn T).val (Nat.le_refl _)
  rw [Nat.sub_self, Nat.mul_zero, Nat.add_zero] at this
  exact this.symm

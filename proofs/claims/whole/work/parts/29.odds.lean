/-! ODDS: what of a share comes to a place, seeker by seeker -/
def sN (f : Nat → Nat) : Nat → Nat
  | 0 => 0
  | n + 1 => sN f n + f n
theorem sN_s (f : Nat → Nat) (n : Nat) : sN f (n + 1) = sN f n + f n := rfl
theorem sN_cg {f g : Nat → Nat} : ∀ n, (∀ i, i < n → f i = g i) → sN f n = sN g n
  | 0, _ => rfl
  | n + 1, h => by rw [sN_s, sN_s, sN_cg n (fun i hi => h i (by omega)), h n (by omega)]
theorem sN_up {f g : Nat → Nat} {e x : Nat} : ∀ n, e < n → (∀ i, i < n → i ≠ e → g i = f i) → g e = f e + x → sN g n = sN f n + x
  | 0, h, _, _ => absurd h (Nat.not_lt_zero _)
  | n + 1, h, h1, h2 => by
    rw [sN_s, sN_s]
    by_cases c : e = n
    · subst c
      rw [sN_cg e (fun i hi => h1 i (by omega) (by omega)), h2]; omega
    · rw [sN_up n (by omega) (fun i hi => h1 i (by omega)) h2, h1 n (by omega) (fun q => c q.symm)]; omega
theorem sN_le {f : Nat → Nat} {i : Nat} : ∀ n, i < n → f i ≤ sN f n
  | 0, h => absurd h (Nat.not_lt_zero _)
  | n + 1, h => by
    rw [sN_s]
    by_cases c : i = n
    · rw [c]; omega
    · have := sN_le (f := f) (i := i) n (by omega); omega
theorem sN_mono {f : Nat → Nat} {n : Nat} : ∀ m, n ≤ m → sN f n ≤ sN f m
  | 0, h => by rw [show n = 0 by omega]; exact Nat.le_refl _
  | m + 1, h => by
    by_cases c : n = m + 1
    · rw [c]; exact Nat.le_refl _
    · have := sN_mono (f := f) (n := n) m (by omega); rw [sN_s]; omega
theorem sN_0 : ∀ n, sN (fun _ => 0) n = 0
  | 0 => rfl
  | n + 1 => by rw [sN_s, sN_0 n]
/-- a sum over a set -/
def sB (m : Nat) (f : Nat → Nat) : Nat → Nat
  | 0 => 0
  | q + 1 => sB m f q + (if m / 2 ^ q % 2 = 1 then f q else 0)
theorem sB_s (m : Nat) (f : Nat → Nat) (q : Nat) : sB m f (q + 1) = sB m f q + (if m / 2 ^ q % 2 = 1 then f q else 0) := rfl
theorem sB_cg {m : Nat} {f g : Nat → Nat} : ∀ n, (∀ i, i < n → f i = g i) → sB m f n = sB m g n
  | 0, _ => rfl
  | n + 1, h => by rw [sB_s, sB_s, sB_cg n (fun i hi => h i (by omega)), h n (by omega)]
theorem sB_add {m : Nat} {f g : Nat → Nat} : ∀ n, sB m (fun q => f q + g q) n = sB m f n + sB m g n
  | 0 => rfl
  | n + 1 => by
    rw [sB_s, sB_s, sB_s, sB_add n]
    split <;> omega
theorem sB_0 {m : Nat} : ∀ n, sB m (fun _ => 0) n = 0
  | 0 => rfl
  | n + 1 => by rw [sB_s, sB_0 n]; split <;> rfl
theorem sB_le {m x : Nat} {f : Nat → Nat} (h : ∀ q, f q ≤ x) : ∀ n, sB m f n ≤ cnt m n * x
  | 0 => Nat.zero_le _
  | n + 1 => by
    have := sB_le (m := m) h n
    have hq := h n
    rw [sB_s, cnt_s]
    rcases Nat.mod_two_eq_zero_or_one (m / 2 ^ n) with c | c
    · rw [c, if_neg (by decide)]; simpa using this
    · rw [c, if_pos rfl, Nat.add_mul, Nat.one_mul]; omega
/-- what of a share comes to p, when these seekers have gone -/
def tV (T : zT) (p : Nat) : List Nat → Nat → (Nat → Nat) → Nat → Nat
  | [], r, _, sh => if r = p then sh else 0
  | k :: ks, r, nx, sh => if (tfi T k r (nx k)).1 = true ∧ tnw T r ≠ 0 then sB (tnw T r) (fun q => tV T p ks q (pup nx k (tfi T k r (nx k)).2) (sh / cnt (tnw T r) 8)) (tpn T) else tV T p ks r (pup nx k (tfi T k r (nx k)).2) sh
theorem tV_c (T : zT) (p k : Nat) (ks : List Nat) (r : Nat) (nx : Nat → Nat) (sh : Nat) : tV T p (k :: ks) r nx sh = if (tfi T k r (nx k)).1 = true ∧ tnw T r ≠ 0 then sB (tnw T r) (fun q => tV T p ks q (pup nx k (tfi T k r (nx k)).2) (sh / cnt (tnw T r) 8)) (tpn T) else tV T p ks r (pup nx k (tfi T k r (nx k)).2) sh := rfl
theorem tV_cg {T : zT} {p : Nat} : ∀ ks r nx nx' sh, (∀ k, k ∈ ks → nx k = nx' k) → tV T p ks r nx sh = tV T p ks r nx' sh
  | [], _, _, _, _, _ => rfl
  | k :: ks, r, nx, nx', sh, h => by
    have h0 := h k (List.mem_cons_self ..)
    have h2 : ∀ v, ∀ j, j ∈ ks → pup nx k v j = pup nx' k v j := fun v j hj => by
      unfold pup; split
      · rfl
      · exact h j (List.mem_cons_of_mem _ hj)
    rw [tV_c, tV_c, h0]
    split
    · exact sB_cg _ (fun q _ => tV_cg ks q _ _ _ (h2 _))
    · exact tV_cg ks r _ _ _ (h2 _)
theorem cnt_5 : ∀ m, m < 64 → ∀ r, r < 6 → m / 2 ^ r % 2 = 0 → cnt m 8 ≤ 5 := by decide +kernel
theorem tnw_self (T : zT) (r : Nat) : tnw T r / 2 ^ r % 2 = 0 := by
  by_cases c : r < (tpn T).val
  · have := tnu_bit T r _ c
    unfold tnw
    rw [this, if_neg]
    unfold tin; simp
  · exact bit_lo (Nat.lt_of_lt_of_le (tnu_lt T r _) (Nat.pow_le_pow_right (by decide) (by omega)))
theorem cnw_5 {T : zT} {r : Nat} (h : r < (tpn T).val) : cnt (tnw T r) 8 ≤ 5 := cnt_5 _ (tnw_64 T r) r (by omega) (tnw_self T r)
theorem cnw_60 {T : zT} {r : Nat} (h : r < (tpn T).val) (h0 : tnw T r ≠ 0) : cnt (tnw T r) 8 ∣ 60 := by
  have h1 := cnt_pos _ (tnw_64 T r) h0
  have h2 := cnw_5 h
  generalize cnt (tnw T r) 8 = c at h1 h2
  have : c = 1 ∨ c = 2 ∨ c = 3 ∨ c = 4 ∨ c = 5 := by omega
  rcases this with rfl | rfl | rfl | rfl | rfl <;> decide
theorem dv_div {j c x : Nat} (hc : c ∣ 60) (h0 : 0 < c) (h : 60 ^ (j + 1) ∣ x) : 60 ^ j ∣ x / c := by
  obtain ⟨y, rfl⟩ := h
  obtain ⟨z, hz⟩ := hc
  refine ⟨z * y, ?_⟩
  have e1 : 60 ^ (j + 1) * y = (60 ^ j * y) * 60 := by rw [Nat.pow_succ]; ac_rfl
  have e2 : (60 ^ j * y) * 60 = (60 ^ j * y) * (c * z) := congrArg (fun t => 60 ^ j * y * t) hz
  rw [e1, e2, show 60 ^ j * y * (c * z) = c * (60 ^ j * (z * y)) by ac_rfl, Nat.mul_div_cancel_left _ h0]
theorem dv_c {j c x : Nat} (hc : c ∣ 60) (h : 60 ^ (j + 1) ∣ x) : c ∣ x := Nat.dvd_trans hc (Nat.dvd_trans ⟨60 ^ j, by rw [Nat.pow_succ]; ac_rfl⟩ h)
theorem div_add {c x y : Nat} (h0 : 0 < c) (h : c ∣ x) : (x + y) / c = x / c + y / c := by
  obtain ⟨u, rfl⟩ := h
  rw [Nat.mul_add_div h0, Nat.mul_div_cancel_left _ h0]
theorem tV_add {T : zT} {p : Nat} : ∀ ks r nx x y, r < (tpn T).val → 60 ^ ks.length ∣ x → 60 ^ ks.length ∣ y → tV T p ks r nx (x + y) = tV T p ks r nx x + tV T p ks r nx y
  | [], r, nx, x, y, _, _, _ => by
    unfold tV; split <;> omega
  | k :: ks, r, nx, x, y, hr, hx, hy => by
    rw [List.length_cons] at hx hy
    rw [tV_c, tV_c, tV_c]
    split
    · rename_i c
      have h60 := cnw_60 hr c.2
      have hp := cnt_pos _ (tnw_64 T r) c.2
      rw [div_add hp (dv_c h60 hx), ← sB_add]
      refine sB_cg _ (fun q hq => ?_)
      exact tV_add ks q _ _ _ hq (dv_div h60 hp hx) (dv_div h60 hp hy)
    · have h1 : ∀ z, 60 ^ (ks.length + 1) ∣ z → 60 ^ ks.length ∣ z := fun z hz => Nat.dvd_trans ⟨60, Nat.pow_succ ..⟩ hz
      exact tV_add ks r _ _ _ hr (h1 _ hx) (h1 _ hy)
theorem tV_0 {T : zT} {p : Nat} : ∀ ks r nx, tV T p ks r nx 0 = 0
  | [], r, nx => by unfold tV; split <;> rfl
  | k :: ks, r, nx => by
    rw [tV_c]
    split
    · rw [Nat.zero_div, sB_cg _ (fun q _ => tV_0 ks q _), sB_0]
    · exact tV_0 ks r _
theorem tV_le {T : zT} {p : Nat} : ∀ ks r nx x, tV T p ks r nx x ≤ x
  | [], r, nx, x => by unfold tV; split <;> omega
  | k :: ks, r, nx, x => by
    rw [tV_c]
    split
    · have h1 := sB_le (m := tnw T r) (f := fun q => tV T p ks q (pup nx k (tfi T k r (nx k)).2) (x / cnt (tnw T r) 8)) (fun q => tV_le ks q _ _) (tpn T)
      rw [show cnt (tnw T r) (tpn T) = cnt (tnw T r) 8 from (cnt_top (tnu_lt T r (tpn T)) (show (tpn T).val ≤ 8 by omega)).symm] at h1
      exact Nat.le_trans h1 (Nat.mul_div_le ..)
    · exact tV_le ks r _ _
/-- the seekers of m turns from the t-th on -/
def rl (ns : Nat) : Nat → Nat → List Nat
  | 0, _ => []
  | m + 1, t => (t % ns) :: rl ns m (t + 1)
theorem rl_len (ns : Nat) : ∀ m t, (rl ns m t).length = m
  | 0, _ => rfl
  | m + 1, t => by show (rl ns m (t + 1)).length + 1 = m + 1; rw [rl_len ns m]
theorem rl_per (ns : Nat) : ∀ m t, rl ns m (t + ns) = rl ns m t
  | 0, _ => rfl
  | m + 1, t => by
    show ((t + ns) % ns) :: rl ns m (t + ns + 1) = (t % ns) :: rl ns m (t + 1)
    rw [Nat.add_mod_right, show t + ns + 1 = (t + 1) + ns by omega, rl_per ns m]
theorem rl_lt {ns : Nat} (h : 0 < ns) : ∀ m t k, k ∈ rl ns m t → k < ns
  | 0, t, k, hk => absurd hk (by simp [rl])
  | m + 1, t, k, hk => by
    unfold rl at hk
    rcases List.mem_cons.1 hk with e | e
    · rw [e]; exact Nat.mod_lt _ h
    · exact rl_lt h m _ _ e
/-! the model's numbers for states -/
def enc (r : Nat) (nx : Nat → Nat) : Nat := r + 6 * (nx 0 + 5 * (nx 1 + 5 * (nx 2 + 5 * nx 3)))
def dnx (s : Nat) : Nat → Nat
  | 0 => s / 6 % 5
  | 1 => s / 6 / 5 % 5
  | 2 => s / 6 / 5 / 5 % 5
  | 3 => s / 6 / 5 / 5 / 5 % 5
  | _ => 0
theorem enc_lt {r : Nat} {nx : Nat → Nat} (hr : r < 6) (h : ∀ k, k < 4 → nx k < 5) : enc r nx < 3750 := by
  have h0 := h 0 (by decide); have h1 := h 1 (by decide); have h2 := h 2 (by decide); have h3 := h 3 (by decide)
  unfold enc; omega
theorem enc_r {r : Nat} {nx : Nat → Nat} (hr : r < 6) : enc r nx % 6 = r := by unfold enc; omega
theorem enc_n {r : Nat} {nx : Nat → Nat} (hr : r < 6) (h : ∀ k, k < 4 → nx k < 5) {k : Nat} (hk : k < 4) : dnx (enc r nx) k = nx k := by
  have h0 := h 0 (by decide); have h1 := h 1 (by decide); have h2 := h 2 (by decide); have h3 := h 3 (by decide)
  have : k = 0 ∨ k = 1 ∨ k = 2 ∨ k = 3 := by omega
  rcases this with rfl | rfl | rfl | rfl
  · show enc r nx / 6 % 5 = nx 0; unfold enc; omega
  · show enc r nx / 6 / 5 % 5 = nx 1; unfold enc; omega
  · show enc r nx / 6 / 5 / 5 % 5 = nx 2; unfold enc; omega
  · show enc r nx / 6 / 5 / 5 / 5 % 5 = nx 3; unfold enc; omega
theorem dnx_lt (s : Nat) (k : Nat) : dnx s k < 5 := by
  unfold dnx; split <;> omega
/-- what of all comes to p -/
def tPh (T : zT) (p : Nat) (ks : List Nat) (A : Nat → Nat) (n : Nat) : Nat := sN (fun s => tV T p ks (s % 6) (dnx s) (A s)) n
/-- states where something is are such as can be; all can be divided -/
def tok (T : zT) (j : Nat) (A : Nat → Nat) : Prop := ∀ s, s < 3750 → 60 ^ j ∣ A s ∧ (A s ≠ 0 → s % 6 < (tpn T).val ∧ tnk T (dnx s))
theorem tok_add {T : zT} {p : Nat} {ks : List Nat} {B : Nat → Nat} {r x : Nat} {nx : Nat → Nat} (hB : tok T ks.length B) (hk : ∀ k, k ∈ ks → k < 4) (hr : r < (tpn T).val) (hn : tnk T nx) (h5 : ∀ k, k < 4 → nx k < 5) (hx : 60 ^ ks.length ∣ x) :
    tok T ks.length (pup B (enc r nx) (B (enc r nx) + x)) ∧ sN (pup B (enc r nx) (B (enc r nx) + x)) 3750 = sN B 3750 + x ∧ tPh T p ks (pup B (enc r nx) (B (enc r nx) + x)) 3750 = tPh T p ks B 3750 + tV T p ks r nx x := by
  have hr6 : r < 6 := by omega
  have he := enc_lt hr6 h5
  have hv : enc r nx % 6 < (tpn T).val ∧ tnk T (dnx (enc r nx)) := ⟨by rw [enc_r hr6]; exact hr, fun k hk => by rw [enc_n hr6 h5 (by omega)]; exact hn k hk⟩
  refine ⟨fun s hs => ?_, ?_, ?_⟩
  · by_cases c : s = enc r nx
    · subst c
      rw [pup_s]
      exact ⟨Nat.dvd_add (hB _ hs).1 hx, fun _ => hv⟩
    · rw [pup_n c]; exact hB s hs
  · exact sN_up _ he (fun i _ hi => pup_n hi) pup_s
  · refine sN_up _ he (fun i _ hi => by simp only [pup_n hi]) ?_
    simp only [pup_s]
    rw [tV_add ks _ _ _ _ hv.1 (hB _ he).1 hx]
    have e1 : tV T p ks (enc r nx % 6) (dnx (enc r nx)) x = tV T p ks r nx x := by
      rw [enc_r hr6]
      exact tV_cg ks r _ _ _ (fun k hk' => enc_n hr6 h5 (hk k hk'))
    rw [e1]

/-! PURE: the models, said in numbers -/
theorem bd_s {X : Type} {r : Int32} {μ : Mem} {A : Int32 → Mem → Option X} : bd (some (r, μ)) A = A r μ := rfl
theorem bv_s {X : Type} {μ : Mem} {A : Mem → Option X} : bv (some μ) A = A μ := rfl
theorem ltx_s {X : Type} {v : Int32} {A : Int32 → Option X} : lt' v A = A v := rfl
theorem pu_s {X : Type} {μ : Mem} {c j : Nat} {v : Int32} {A : Mem → Option X} : pu μ c j v A = A (up μ c j v) := rfl
theorem inb_nI {k n : Nat} (h : k < n) (hn : n < 2 ^ 31) : inb (nI k) n = true := by
  simp only [inb, Bool.not_eq_true', Bool.or_eq_false_iff, decide_eq_false_iff_not]
  exact ⟨nI_pos (by omega), by rw [nI_clamp (by omega)]; omega⟩
theorem ald_s {X : Type} {L : Nat → Nat} {μ : Mem} {c k : Nat} {A : Int32 → Option X} (h : k < L c) (hn : L c < 2 ^ 31) : ald L μ c (nI k) A = A (μ c k) := by
  rw [ald, if_pos (inb_nI h hn), nI_clamp (by omega)]
theorem ast_s {X : Type} {L : Nat → Nat} {μ : Mem} {c k : Nat} {v : Int32} {A : Mem → Option X} (h : k < L c) (hn : L c < 2 ^ 31) : ast L μ c (nI k) v A = A (up μ c k v) := by
  rw [ast, if_pos (inb_nI h hn), nI_clamp (by omega)]
theorem aaq_s {X : Type} {L : Nat → Nat} {c k : Nat} {A : Option X} (h : k < L c) (hn : L c < 2 ^ 31) : aaq L c (nI k) A = A := by
  rw [aaq, if_pos (inb_nI h hn)]
theorem upd_at (f : Nat → Int32) (k : Nat) (x : Int32) : upd f k x k = x := if_pos rfl
theorem upd_ne {f : Nat → Int32} {k j : Nat} {x : Int32} (h : j ≠ k) : upd f k x j = f j := if_neg h
theorem up_aa (μ : Mem) (c j : Nat) (v : Int32) : up μ c j v c j = v := by rw [up_at, upd_at]
theorem up_an {μ : Mem} {c j k : Nat} {v : Int32} (h : k ≠ j) : up μ c j v c k = μ c k := by rw [up_at, upd_ne h]
theorem n0 : (0 : Int32) = nI 0 := rfl
theorem n1 : (1 : Int32) = nI 1 := rfl
theorem n4 : (4 : Int32) = nI 4 := rfl
theorem n16 : (16 : Int32) = nI 16 := rfl
theorem n24 : (24 : Int32) = nI 24 := rfl
theorem n25 : (25 : Int32) = nI 25 := rfl
theorem nle {a b : Nat} (ha : a < 2 ^ 31) (hb : b < 2 ^ 31) : (nI a ≤ nI b) = (a ≤ b) := propext (nI_leI ha hb)
theorem nlt {a b : Nat} (ha : a < 2 ^ 31) (hb : b < 2 ^ 31) : (nI a < nI b) = (a < b) := propext (nI_ltI ha hb)
theorem neq {a b : Nat} (ha : a < 2 ^ 31) (hb : b < 2 ^ 31) : (nI a = nI b) = (a = b) := propext (nI_eq ha hb)
theorem nif {c : Prop} [Decidable c] {a b : Nat} : (if c then nI a else nI b) = nI (if c then a else b) := by split <;> rfl
/-- loops by a counter: no state -/
theorem lpC {R : Type} (F : Nat → Nat → Option R) (E : Option R) (n : Nat) (hx : ∀ k, F (k + 1) n = E) (hs : ∀ k a, a < n → F (k + 1) a = F k (a + 1)) : ∀ (d a k : Nat), a + d = n → d < k → F k a = E := by
  intro d
  induction d with
  | zero =>
    intro a k h1 h2
    obtain ⟨k, rfl⟩ : ∃ j, k = j + 1 := ⟨k - 1, by omega⟩
    have h1 : a = n := by omega
    subst h1
    exact hx k
  | succ d ih =>
    intro a k h1 h2
    obtain ⟨k, rfl⟩ : ∃ j, k = j + 1 := ⟨k - 1, by omega⟩
    rw [hs k a (by omega)]
    exact ih (a + 1) k (by omega) (by omega)
/-- loops by a counter, over a state that keeps an invariant -/
theorem lpI {S R : Type} (F : Nat → Nat → S → Option R) (E : S → Option R) (I : Nat → S → Prop) (n : Nat) (hx : ∀ k μ, I n μ → F (k + 1) n μ = E μ) (hs : ∀ k a μ, a < n → I a μ → ∃ μ', F (k + 1) a μ = F k (a + 1) μ' ∧ I (a + 1) μ') : ∀ (d a : Nat) (μ : S) (k : Nat), a + d = n → d < k → I a μ → ∃ μ', F k a μ = E μ' ∧ I n μ' := by
  intro d
  induction d with
  | zero =>
    intro a μ k h1 h2 h3
    obtain ⟨k, rfl⟩ : ∃ j, k = j + 1 := ⟨k - 1, by omega⟩
    have h1 : a = n := by omega
    subst h1
    exact ⟨μ, hx k μ h3, h3⟩
  | succ d ih =>
    intro a μ k h1 h2 h3
    obtain ⟨k, rfl⟩ : ∃ j, k = j + 1 := ⟨k - 1, by omega⟩
    obtain ⟨μ', h4, h5⟩ := hs k a μ (by omega) h3
    rw [h4]
    exact ih (a + 1) μ' k (by omega) (by omega) h5
/-! a shape of costs: N names of z values each, T tables of names lo and hi, the top -/
def Sp : Type := Nat × (Nat → Nat) × Nat × (Nat → Nat) × (Nat → Nat) × Nat
def Sp.N (d : Sp) : Nat := d.1
def Sp.z (d : Sp) : Nat → Nat := d.2.1
def Sp.T (d : Sp) : Nat := d.2.2.1
def Sp.lo (d : Sp) : Nat → Nat := d.2.2.2.1
def Sp.hi (d : Sp) : Nat → Nat := d.2.2.2.2.1
def Sp.tp (d : Sp) : Nat := d.2.2.2.2.2
def Sp.ok (d : Sp) : Prop := d.N ≤ 6 ∧ (∀ i, i < d.N → 2 ≤ d.z i ∧ d.z i ≤ 4) ∧ d.T ≤ 9 ∧ (∀ t, t < d.T → d.lo t < d.hi t ∧ d.hi t < d.N) ∧ 1 ≤ d.tp ∧ d.tp ≤ 99
/-- the place of a single cost, of a pair's -/
def si (i a : Nat) : Nat := 4 * i + a
def pi (t a b : Nat) : Nat := 24 + 16 * t + 4 * a + b
/-- the places that are used -/
def Sp.U (d : Sp) (k : Nat) : Prop := k = 168 ∨ (∃ i a, i < d.N ∧ a < d.z i ∧ k = si i a) ∨ (∃ t a b, t < d.T ∧ a < d.z (d.lo t) ∧ b < d.z (d.hi t) ∧ k = pi t a b)
theorem Sp.Us {d : Sp} {i a : Nat} (hi : i < d.N) (ha : a < d.z i) : d.U (si i a) := Or.inr (Or.inl ⟨i, a, hi, ha, rfl⟩)
theorem Sp.Up {d : Sp} {t a b : Nat} (ht : t < d.T) (ha : a < d.z (d.lo t)) (hb : b < d.z (d.hi t)) : d.U (pi t a b) := Or.inr (Or.inr ⟨t, a, b, ht, ha, hb, rfl⟩)
theorem Sp.Uc {d : Sp} : d.U 168 := Or.inl rfl
theorem Sp.Ult {d : Sp} (hd : d.ok) {k : Nat} (h : d.U k) : k ≤ 168 := by
  obtain ⟨h1, h2, h3, h4, h5⟩ := hd
  rcases h with rfl | ⟨i, a, hi, ha, rfl⟩ | ⟨t, a, b, ht, ha, hb, rfl⟩
  · omega
  · have := h2 i hi; unfold si; omega
  · have := h4 t ht; have := h2 _ (show d.lo t < d.N by omega); have := h2 _ (show d.hi t < d.N by omega); unfold pi; omega
theorem si_lt {d : Sp} (hd : d.ok) {i a : Nat} (hi : i < d.N) (ha : a < d.z i) : si i a < 24 := by
  obtain ⟨h1, h2, h3, h4, h5⟩ := hd
  have := h2 i hi; unfold si; omega
theorem pi_lt {d : Sp} (hd : d.ok) {t a b : Nat} (ht : t < d.T) (ha : a < d.z (d.lo t)) (hb : b < d.z (d.hi t)) : 24 ≤ pi t a b ∧ pi t a b < 168 := by
  obtain ⟨h1, h2, h3, h4, h5⟩ := hd
  have := h4 t ht; have := h2 _ (show d.lo t < d.N by omega); have := h2 _ (show d.hi t < d.N by omega); unfold pi; omega
def gu (g : Nat → Nat) (k v : Nat) : Nat → Nat := fun j => if j = k then v else g j
theorem gu_at (g : Nat → Nat) (k v : Nat) : gu g k v k = v := if_pos rfl
theorem gu_ne {g : Nat → Nat} {k v j : Nat} (h : j ≠ k) : gu g k v j = g j := if_neg h
/-- a store of costs: the cell c, place e k for cost k; apart from it and from the cells Z nothing is another than in μ0 -/
def Sto (d : Sp) (Z : Nat → Prop) (c : Nat) (e : Nat → Nat) (μ0 μ : Mem) (g : Nat → Nat) : Prop :=
  (∀ x, x ≠ c → ¬ Z x → μ x = μ0 x) ∧ (∀ j, (∀ k, d.U k → j ≠ e k) → μ c j = μ0 c j) ∧ ∀ k, d.U k → μ c (e k) = nI (g k)
theorem Sto.up {d : Sp} {Z : Nat → Prop} {c : Nat} {e : Nat → Nat} {μ0 μ : Mem} {g : Nat → Nat} (h : Sto d Z c e μ0 μ g) (he : ∀ i j, d.U i → d.U j → e i = e j → i = j) {k v : Nat} (hk : d.U k) : Sto d Z c e μ0 (up μ c (e k) (nI v)) (gu g k v) := by
  refine ⟨fun x h1 h2 => by rw [up_ne h1]; exact h.1 x h1 h2, fun j hj => ?_, fun i hi => ?_⟩
  · rw [up_an (hj k hk)]
    exact h.2.1 j hj
  · by_cases hik : i = k
    · subst hik
      rw [up_aa, gu_at]
    · rw [up_an (fun q => hik (he i k hi hk q)), gu_ne hik]
      exact h.2.2 i hi
theorem Sto.ext {d : Sp} {Z : Nat → Prop} {c : Nat} {e : Nat → Nat} {μ0 μ : Mem} {g g' : Nat → Nat} (h : Sto d Z c e μ0 μ g) (hg : ∀ k, d.U k → g k = g' k) : Sto d Z c e μ0 μ g' := ⟨h.1, h.2.1, fun k hk => by rw [h.2.2 k hk, hg k hk]⟩
theorem Sto.trans {d : Sp} {Z : Nat → Prop} {c : Nat} {e : Nat → Nat} {μ0 μ1 μ : Mem} {g1 g : Nat → Nat} (h1 : Sto d Z c e μ0 μ1 g1) (h : Sto d Z c e μ1 μ g) : Sto d Z c e μ0 μ g := ⟨fun x a b => (h.1 x a b).trans (h1.1 x a b), fun j hj => (h.2.1 j hj).trans (h1.2.1 j hj), h.2.2⟩
theorem Sto.rf {d : Sp} {Z : Nat → Prop} {c : Nat} {e : Nat → Nat} {μ : Mem} {g : Nat → Nat} (h : ∀ k, d.U k → μ c (e k) = nI (g k)) : Sto d Z c e μ μ g := ⟨fun _ _ _ => rfl, fun _ _ => rfl, h⟩
theorem Sto.mono {d : Sp} {Z Z' : Nat → Prop} {c : Nat} {e : Nat → Nat} {μ0 μ : Mem} {g : Nat → Nat} (h : Sto d Z c e μ0 μ g) (hZ : ∀ x, Z x → Z' x) : Sto d Z' c e μ0 μ g := ⟨fun x a b => h.1 x a (fun q => b (hZ x q)), h.2⟩
/-- where the class keeps cost k -/
def cx (k : Nat) : Nat := if k = 168 then 0 else k + 1
theorem cx_s {d : Sp} (hd : d.ok) {i a : Nat} (hi : i < d.N) (ha : a < d.z i) : cx (si i a) = 1 + 4 * i + a := by
  have h := si_lt hd hi ha
  rw [cx, if_neg (by omega)]
  unfold si
  omega
theorem cx_p {d : Sp} (hd : d.ok) {t a b : Nat} (ht : t < d.T) (ha : a < d.z (d.lo t)) (hb : b < d.z (d.hi t)) : cx (pi t a b) = 25 + 16 * t + 4 * a + b := by
  have h := pi_lt hd ht ha hb
  rw [cx, if_neg (by omega)]
  unfold pi
  omega
theorem cx_c : cx 168 = 0 := if_pos rfl
theorem cx_inj {d : Sp} (hd : d.ok) : ∀ i j, d.U i → d.U j → cx i = cx j → i = j := by
  intro i j hi hj h
  have h1 := Sp.Ult hd hi
  have h2 := Sp.Ult hd hj
  unfold cx at h
  split at h <;> split at h <;> omega
theorem cx_lt {d : Sp} (hd : d.ok) {k : Nat} (h : d.U k) : cx k < 169 := by
  have h1 := Sp.Ult hd h
  unfold cx
  split <;> omega
def mn (f : Nat → Nat) (t : Nat) : Nat → Nat
  | 0 => t
  | n + 1 => if f n < mn f t n then f n else mn f t n
def mx (f : Nat → Nat) : Nat → Nat
  | 0 => 0
  | n + 1 => if mx f n < f n then f n else mx f n
theorem mn_le (f : Nat → Nat) (t : Nat) : ∀ n, mn f t n ≤ t
  | 0 => Nat.le_refl _
  | n + 1 => by
    have := mn_le f t n
    unfold mn
    split <;> omega
theorem mn_at (f : Nat → Nat) (t : Nat) : ∀ n k, k < n → mn f t n ≤ f k
  | n + 1, k, h => by
    unfold mn
    by_cases hk : k = n
    · subst hk
      split <;> omega
    · have := mn_at f t n k (by omega)
      split <;> omega
theorem mn_ext {f g : Nat → Nat} {t : Nat} : ∀ {n : Nat}, (∀ k, k < n → f k = g k) → mn f t n = mn g t n
  | 0, _ => rfl
  | n + 1, h => by
    unfold mn
    rw [mn_ext (fun k hk => h k (by omega)), h n (by omega)]
theorem mx_ext {f g : Nat → Nat} : ∀ {n : Nat}, (∀ k, k < n → f k = g k) → mx f n = mx g n
  | 0, _ => rfl
  | n + 1, h => by
    unfold mx
    rw [mx_ext (fun k hk => h k (by omega)), h n (by omega)]
theorem mx_le {f : Nat → Nat} {t : Nat} : ∀ n, (∀ k, k < n → f k ≤ t) → mx f n ≤ t
  | 0, _ => Nat.zero_le _
  | n + 1, h => by
    have h1 := mx_le n (fun k hk => h k (by omega))
    have h2 := h n (by omega)
    unfold mx
    split <;> omega
theorem mx_at {f : Nat → Nat} : ∀ n k, k < n → f k ≤ mx f n
  | n + 1, k, h => by
    unfold mx
    by_cases hk : k = n
    · subst hk
      split <;> omega
    · have := mx_at (f := f) n k (by omega)
      split <;> omega
/-- n steps in a row -/
def fo {α : Type} (f : Nat → α → α) : Nat → α → α
  | 0, g => g
  | n + 1, g => f n (fo f n g)
def sm (tp a b : Nat) : Nat := if tp ≤ a + b then tp else a + b
def ls (tp a x : Nat) : Nat := if a = tp then a else a - x
theorem sm_le (tp a b : Nat) : sm tp a b ≤ tp := by unfold sm; split <;> omega

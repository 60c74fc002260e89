/-! rows -/
section PR
variable {L : Nat → Nat} {μ : Mem}
theorem r_take {r r1 n : Nat} (hL : L (r + 1) = n) (hL1 : L (r1 + 1) = n) (hn : n < 5000) (hne : r ≠ r1) : ∃ μ', fX3_takeFrom L r r1 μ = some μ' ∧ (∀ c, c ≠ r + 1 → μ' c = μ c) ∧ (∀ j, j < n → μ' (r + 1) j = μ (r1 + 1) j) ∧ ∀ j, n ≤ j → μ' (r + 1) j = μ (r + 1) j := by
  unfold fX3_takeFrom
  refine Exists.elim (lpI (fun k a μ => fX3_takeFrom_2 L r r1 k (nI a) μ) (fun μ => some μ) (fun a μ' => (∀ c, c ≠ r + 1 → μ' c = μ c) ∧ (∀ j, j < a → μ' (r + 1) j = μ (r1 + 1) j) ∧ ∀ j, a ≤ j → μ' (r + 1) j = μ (r + 1) j) n ?_ ?_ n 0 μ FU (by omega) (FU_gt hn) ⟨fun _ _ => rfl, fun j h => by omega, fun _ _ => rfl⟩) ?_
  · intro k μ' h
    simp only [fX3_takeFrom_2]
    unfold fX3_takeFrom_2_b
    rw [hL, if_pos (nI_le (Nat.le_refl _) (by omega))]
  · intro k a μ' ha ⟨h1, h2, h3⟩
    simp only [fX3_takeFrom_2]
    unfold fX3_takeFrom_2_b
    rw [hL, if_neg (nI_ge ha (by omega)), rget hL1 ha (by omega), bd_s, ast_s (by omega) (by omega), ltx_s, nI_1]
    refine ⟨_, rfl, fun c hc => by rw [up_ne hc]; exact h1 c hc, fun j hj => ?_, fun j hj => ?_⟩
    · by_cases hja : j = a
      · subst hja
        rw [up_aa, h1 _ (by omega)]
      · rw [up_an hja]
        exact h2 j (by omega)
    · rw [up_an (by omega)]
      exact h3 j (by omega)
  · intro μ' ⟨h1, h2, h3, h4⟩
    exact ⟨μ', h1, h2, h3, h4⟩
theorem r_like {r r1 n : Nat} (hL : L (r + 1) = n) (hL1 : L (r1 + 1) = n) (hn : n < 5000) : ∃ b : Int32, fX3_isLike L r r1 μ = some (b, μ) ∧ ((b = 1 ∧ ∀ j, j < n → μ (r + 1) j = μ (r1 + 1) j) ∨ (b = 0 ∧ ∃ j, j < n ∧ μ (r + 1) j ≠ μ (r1 + 1) j)) := by
  unfold fX3_isLike
  have key : ∀ (d a k : Nat), a + d = n → d < k → (∀ j, j < a → μ (r + 1) j = μ (r1 + 1) j) → ∃ b : Int32, fX3_isLike_2 L r r1 k (nI a) μ = some (b, μ) ∧ ((b = 1 ∧ ∀ j, j < n → μ (r + 1) j = μ (r1 + 1) j) ∨ (b = 0 ∧ ∃ j, j < n ∧ μ (r + 1) j ≠ μ (r1 + 1) j)) := by
    intro d
    induction d with
    | zero =>
      intro a k h1 h2 h3
      obtain ⟨k, rfl⟩ : ∃ j, k = j + 1 := ⟨k - 1, by omega⟩
      have h1 : a = n := by omega
      subst h1
      simp only [fX3_isLike_2]
      unfold fX3_isLike_2_b
      rw [hL, if_pos (nI_le (Nat.le_refl _) (by omega))]
      exact ⟨1, rfl, Or.inl ⟨rfl, h3⟩⟩
    | succ d ih =>
      intro a k h1 h2 h3
      obtain ⟨k, rfl⟩ : ∃ j, k = j + 1 := ⟨k - 1, by omega⟩
      simp only [fX3_isLike_2]
      unfold fX3_isLike_2_b
      rw [hL, if_neg (nI_ge (by omega) (by omega)), ald_s (by omega) (by omega), rget hL1 (by omega) (by omega), bd_s]
      by_cases h : μ (r + 1) a = μ (r1 + 1) a
      · rw [if_pos h, ltx_s, nI_1]
        refine ih (a + 1) k (by omega) (by omega) (fun j hj => ?_)
        by_cases hja : j = a
        · subst hja; exact h
        · exact h3 j (by omega)
      · rw [if_neg h]
        exact ⟨0, rfl, Or.inr ⟨rfl, a, by omega, h⟩⟩
  exact key n 0 FU (by omega) (FU_gt hn) (fun j h => by omega)
end PR
/-! sweeps, in numbers -/
def nodeG (d : Sp) (i : Nat) (g : Nat → Nat) : Nat → Nat := fo (shG d i) (d.z i) (if 0 < mn (fun a => g (si i a)) d.tp (d.z i) then mvC d i (mn (fun a => g (si i a)) d.tp (d.z i)) g else g)
def nodesG (d : Sp) (g : Nat → Nat) : Nat → Nat := fo (nodeG d) d.N g
def plG (d : Sp) (t s a : Nat) (g : Nat → Nat) : Nat → Nat := if 0 < mn (fun b => g (pk t s a b)) d.tp (d.z (d.nm (1 - s) t)) then mvV d t s a (mn (fun b => g (pk t s a b)) d.tp (d.z (d.nm (1 - s) t))) g else g
def plsG (d : Sp) (t s : Nat) (g : Nat → Nat) : Nat → Nat := fo (plG d t s) (d.z (d.nm s t)) g
def arcG (d : Sp) (t : Nat) (g : Nat → Nat) : Nat → Nat := plsG d t 1 (plsG d t 0 (tpT d t g))
def arcsG (d : Sp) (g : Nat → Nat) : Nat → Nat := fo (arcG d) d.T g
def Pd (d : Sp) (t : Nat) (g : Nat → Nat) (a : Nat) : Nat := mn (fun b => sm d.tp (g (pi t a b)) (g (si (d.hi t) b))) d.tp (d.z (d.hi t))
def Ed (d : Sp) (t : Nat) (g : Nat → Nat) (b : Nat) : Nat := mx (fun a => Pd d t g a - g (pi t a b)) (d.z (d.lo t))
def dirE (d : Sp) (t : Nat) (g0 : Nat → Nat) (b : Nat) (g : Nat → Nat) : Nat → Nat := if 0 < Ed d t g0 b then mvT d t 1 b (Ed d t g0 b) g else g
def dirP (d : Sp) (t : Nat) (g0 : Nat → Nat) (a : Nat) (g : Nat → Nat) : Nat → Nat := if 0 < Pd d t g0 a then mvV d t 0 a (Pd d t g0 a) g else g
def dirG (d : Sp) (t : Nat) (g : Nat → Nat) : Nat → Nat := fo (dirP d t (tpT d t g)) (d.z (d.lo t)) (fo (dirE d t (tpT d t g)) (d.z (d.hi t)) (tpT d t g))
def dirJ (d : Sp) (j t : Nat) (g : Nat → Nat) : Nat → Nat := if d.hi t = j then dirG d t g else g
/-- names from n - 1 down to 0 -/
def fd {α : Type} (f : Nat → α → α) : Nat → α → α
  | 0, g => g
  | n + 1, g => fd f n (f n g)
def dirsG (d : Sp) (g : Nat → Nat) : Nat → Nat := fd (fun j => fo (dirJ d j) d.T) d.N g
def swG (d : Sp) (kind : Nat) (g : Nat → Nat) : Nat → Nat := nodesG d (if kind = 1 then arcsG d g else if kind = 2 then dirsG d g else g)
noncomputable def stG (d : Sp) (kind : Nat) : Nat → Nat → (Nat → Nat) → Nat × (Nat → Nat)
  | 0, n, g => (n, g)
  | r + 1, n, g => @ite _ (∀ k, d.U k → swG d kind g k = g k) (Classical.propDecidable _) (n, swG d kind g) (stG d kind r (n + 1) (swG d kind g))
section GB
variable {d : Sp} {g : Nat → Nat}
theorem gb_node (hb : gb d g) {i : Nat} (hi : i < d.N) : gb d (nodeG d i g) := by
  unfold nodeG
  refine fo_ind ?_ (fun _ _ _ h => gb_shG h)
  split
  · exact gb_mvC hb hi
  · exact hb
theorem gb_nodes (hb : gb d g) : gb d (nodesG d g) := fo_ind hb (fun _ _ hi h => gb_node h hi)
theorem gb_pl (hd : d.ok) (hb : gb d g) {t s a : Nat} (hs : s < 2) (ht : t < d.T) (ha : a < d.z (d.nm s t)) : gb d (plG d t s a g) := by
  unfold plG
  split
  · exact gb_mvV hd hb hs ht ha
  · exact hb
theorem gb_pls (hd : d.ok) (hb : gb d g) {t s : Nat} (hs : s < 2) (ht : t < d.T) : gb d (plsG d t s g) := fo_ind hb (fun _ _ hi h => gb_pl hd h hs ht hi)
theorem gb_arc (hd : d.ok) (hb : gb d g) {t : Nat} (ht : t < d.T) : gb d (arcG d t g) := gb_pls hd (gb_pls hd (gb_tpT hb) (by decide) ht) (by decide) ht
theorem gb_arcs (hd : d.ok) (hb : gb d g) : gb d (arcsG d g) := fo_ind hb (fun _ _ hi h => gb_arc hd h hi)
theorem gb_dirE (hd : d.ok) {g0 : Nat → Nat} (hb : gb d g) {t b : Nat} (ht : t < d.T) (hbz : b < d.z (d.hi t)) : gb d (dirE d t g0 b g) := by
  unfold dirE
  split
  · exact gb_mvT hd hb ht hbz
  · exact hb
theorem gb_dirP (hd : d.ok) {g0 : Nat → Nat} (hb : gb d g) {t a : Nat} (ht : t < d.T) (ha : a < d.z (d.lo t)) : gb d (dirP d t g0 a g) := by
  unfold dirP
  split
  · exact gb_mvV hd hb (by decide) ht ha
  · exact hb
theorem gb_dir (hd : d.ok) (hb : gb d g) {t : Nat} (ht : t < d.T) : gb d (dirG d t g) := fo_ind (fo_ind (gb_tpT hb) (fun _ _ hi h => gb_dirE hd h ht hi)) (fun _ _ hi h => gb_dirP hd h ht hi)
theorem gb_dirJ (hd : d.ok) (hb : gb d g) {j t : Nat} (ht : t < d.T) : gb d (dirJ d j t g) := by
  unfold dirJ
  split
  · exact gb_dir hd hb ht
  · exact hb
theorem fd_ind {α : Type} {P : α → Prop} {f : Nat → α → α} : ∀ {n : Nat} {g : α}, P g → (∀ i g, i < n → P g → P (f i g)) → P (fd f n g)
  | 0, _, h, _ => h
  | n + 1, g, h, hs => fd_ind (n := n) (g := f n g) (hs n g (by omega) h) (fun i g hi => hs i g (by omega))
theorem gb_dirs (hd : d.ok) (hb : gb d g) : gb d (dirsG d g) := fd_ind hb (fun _ _ _ h => fo_ind h (fun _ _ hi h => gb_dirJ hd h hi))
theorem gb_sw (hd : d.ok) (hb : gb d g) (kind : Nat) : gb d (swG d kind g) := by
  unfold swG
  apply gb_nodes
  split
  · exact gb_arcs hd hb
  · split
    · exact gb_dirs hd hb
    · exact hb
theorem Pd_le (t : Nat) (a : Nat) : Pd d t g a ≤ d.tp := mn_le _ _ _
theorem Ed_le (t b : Nat) : Ed d t g b ≤ d.tp := mx_le _ (fun a _ => by have := Pd_le (d := d) (g := g) t a; omega)
theorem Ed_single {t b : Nat} (hbz : b < d.z (d.hi t)) : Ed d t g b ≤ g (si (d.hi t) b) := by
  refine mx_le _ (fun a _ => ?_)
  have h : Pd d t g a ≤ sm d.tp (g (pi t a b)) (g (si (d.hi t) b)) := mn_at _ _ _ b hbz
  have h2 : sm d.tp (g (pi t a b)) (g (si (d.hi t) b)) ≤ g (pi t a b) + g (si (d.hi t) b) := by unfold sm; split <;> omega
  omega
theorem Ed_ge {t a b : Nat} (ha : a < d.z (d.lo t)) : Pd d t g a ≤ g (pi t a b) + Ed d t g b := by
  have h := mx_at (f := fun a => Pd d t g a - g (pi t a b)) (d.z (d.lo t)) a ha
  have h : Pd d t g a - g (pi t a b) ≤ Ed d t g b := h
  omega
theorem pi_inj {d : Sp} (hd : d.ok) {t a b a' b' : Nat} (ht : t < d.T) (hb : b < d.z (d.hi t)) (hb' : b' < d.z (d.hi t)) (h : pi t a b = pi t a' b') : a = a' ∧ b = b' := by
  have h1 := Sp.hz hd (Sp.hl hd ht).2.1
  unfold pi at h
  omega
theorem si_pi {d : Sp} (hd : d.ok) {i a t a' b' : Nat} (hi : i < d.N) (ha : a < d.z i) : si i a ≠ pi t a' b' := by
  have h := si_lt hd hi ha
  unfold pi
  omega
theorem mvT_single (hd : d.ok) {t b b' x : Nat} (ht : t < d.T) (hb' : b' < d.z (d.hi t)) (hne : b' ≠ b) : mvT d t 1 b x g (si (d.hi t) b') = g (si (d.hi t) b') := by
  unfold mvT
  refine (fo_ne (fun i g' _ => gu_ne (by show si (d.hi t) b' ≠ pk t 1 b i; exact si_pi hd (Sp.hl hd ht).2.1 hb'))).trans ?_
  exact gu_ne (si_inj hne)
theorem mvT_pair (hd : d.ok) {t a b b' x : Nat} (ht : t < d.T) (ha : a < d.z (d.lo t)) (hb : b < d.z (d.hi t)) (hb' : b' < d.z (d.hi t)) : mvT d t 1 b x g (pi t a b') = if b' = b then sm d.tp (g (pi t a b)) x else g (pi t a b') := by
  have hs : si (d.nm 1 t) b ≠ pi t a b' := si_pi hd (Sp.hl hd ht).2.1 hb
  have e0 : lsG d.tp x (si (d.nm 1 t) b) g (pi t a b') = g (pi t a b') := gu_ne hs.symm
  unfold mvT
  by_cases h : b' = b
  · subst h
    rw [if_pos rfl]
    have key : ∀ n, n ≤ d.z (d.lo t) → fo (fun c => smG d.tp x (pk t 1 b' c)) n (lsG d.tp x (si (d.nm 1 t) b') g) (pi t a b') = if a < n then sm d.tp (g (pi t a b')) x else g (pi t a b') := by
      intro n
      induction n with
      | zero => intro _; rw [if_neg (by omega)]; exact e0
      | succ n ih =>
        intro hn
        have ih := ih (by omega)
        simp only [fo]
        by_cases han : a = n
        · subst han
          rw [if_neg (by omega)] at ih
          rw [if_pos (by omega)]
          show gu _ (pi t a b') _ (pi t a b') = _
          rw [gu_at]
          show sm d.tp (fo (fun c => smG d.tp x (pk t 1 b' c)) a (lsG d.tp x (si (d.nm 1 t) b') g) (pi t a b')) x = _
          rw [ih]
        · show gu _ (pi t n b') _ (pi t a b') = _
          rw [gu_ne (fun q => han (pi_inj hd ht hb' hb' q).1), ih]
          by_cases q : a < n
          · rw [if_pos q, if_pos (by omega)]
          · rw [if_neg q, if_neg (by omega)]
    rw [show d.nm (1 - 1) t = d.lo t from rfl, key _ (Nat.le_refl _), if_pos ha]
  · rw [if_neg h]
    refine (fo_ne (fun i g' _ => gu_ne (by show pi t a b' ≠ pi t i b; exact fun q => h (pi_inj hd ht hb' hb q).2))).trans ?_
    exact e0
/-- behind the extensions each pair's cost is P of its value at least -/
theorem dirE_ge (hd : d.ok) {g0 : Nat → Nat} (hb : gb d g0) {t : Nat} (ht : t < d.T) {a b : Nat} (ha : a < d.z (d.lo t)) (hbz : b < d.z (d.hi t)) : ∀ n, n ≤ d.z (d.hi t) → (n ≤ b → fo (dirE d t g0) n g0 (pi t a b) = g0 (pi t a b)) ∧ (b < n → Pd d t g0 a ≤ fo (dirE d t g0) n g0 (pi t a b)) ∧ (n ≤ b → fo (dirE d t g0) n g0 (si (d.hi t) b) = g0 (si (d.hi t) b)) := by
  intro n
  induction n with
  | zero => intro _; exact ⟨fun _ => rfl, fun h => by omega, fun _ => rfl⟩
  | succ n ih =>
    intro hn
    obtain ⟨i1, i2, i3⟩ := ih (by omega)
    have hP := Pd_le (d := d) (g := g0) t a
    simp only [fo]
    generalize hG : fo (dirE d t g0) n g0 = G at i1 i2 i3
    have hp := fun x => mvT_pair (g := G) hd (x := x) ht ha (show n < d.z (d.hi t) by omega) hbz
    refine ⟨fun h => ?_, fun h => ?_, fun h => ?_⟩
    · unfold dirE
      split
      · rw [hp, if_neg (by omega)]; exact i1 (by omega)
      · exact i1 (by omega)
    · by_cases hbn : b = n
      · subst hbn
        have e := i1 (Nat.le_refl _)
        have h1 := Ed_ge (d := d) (g := g0) (t := t) (b := b) ha
        unfold dirE
        split
        · rw [hp, if_pos rfl, e]
          unfold sm
          split <;> omega
        · rw [e]; omega
      · have e := i2 (by omega)
        unfold dirE
        split
        · rw [hp, if_neg hbn]; exact e
        · exact e
    · unfold dirE
      split
      · rw [mvT_single hd ht hbz (by omega)]; exact i3 (by omega)
      · exact i3 (by omega)
theorem mvV0_pair (hd : d.ok) {t a a' b x : Nat} (ht : t < d.T) (ha : a < d.z (d.lo t)) (hb : b < d.z (d.hi t)) (hne : a' ≠ a) : mvV d t 0 a x g (pi t a' b) = g (pi t a' b) := by
  unfold mvV smG
  have hs : si (d.nm 0 t) a ≠ pi t a' b := si_pi hd (Sp.hl hd ht).1 ha
  rw [gu_ne hs.symm]
  exact fo_ne (fun i g' hi => gu_ne (by show pi t a' b ≠ pi t a i; exact fun q => hne (pi_inj hd ht hb hi q).1))
theorem dirP_pair (hd : d.ok) {g0 : Nat → Nat} {t a b : Nat} (ht : t < d.T) (hbz : b < d.z (d.hi t)) : ∀ n, n ≤ a → n ≤ d.z (d.lo t) → fo (dirP d t g0) n g (pi t a b) = g (pi t a b) := by
  intro n
  induction n with
  | zero => intro _ _; rfl
  | succ n ih =>
    intro h1 h2
    simp only [fo]
    have e := ih (by omega) (by omega)
    unfold dirP
    split
    · rw [mvV0_pair hd ht (by omega) hbz (by omega)]; exact e
    · exact e
end GB

/-! all choices in their order, and what is kept of them -/
abbrev S6 : Type := Nat × Nat × Nat × Nat × Int32 × (Nat → Nat)
def bt (ch : Nat → Nat) : Nat → Int32
  | 0 => 0
  | n + 1 => bt ch n ||| ((1 : Int32) <<< (nI (si n (ch n)) &&& 31))
theorem bt_ext {ch ch' : Nat → Nat} : ∀ {n : Nat}, (∀ i, i < n → ch i = ch' i) → bt ch n = bt ch' n
  | 0, _ => rfl
  | n + 1, h => by
    unfold bt
    rw [bt_ext (fun i hi => h i (by omega)), h n (by omega)]
def nf (d : Sp) (ch : Nat → Nat) : Nat → Nat := fun i => if i < d.N then ch i else 0
theorem nf_ext {d : Sp} {ch ch' : Nat → Nat} (h : ∀ i, i < d.N → ch i = ch' i) : nf d ch = nf d ch' := by
  funext i
  unfold nf
  by_cases q : i < d.N
  · rw [if_pos q, if_pos q, h i q]
  · rw [if_neg q, if_neg q]
def nt (d : Sp) (ch : Nat → Nat) (tot : Nat) (s : S6) : S6 :=
  if tot < s.1 then (tot, s.1, 1, s.2.2.2.1 + 1, bt ch d.N, nf d ch)
  else if tot = s.1 then (s.1, s.2.1, s.2.2.1 + 1, s.2.2.2.1 + 1, s.2.2.2.2.1 &&& bt ch d.N, s.2.2.2.2.2)
  else (s.1, (if tot < s.2.1 then tot else s.2.1), s.2.2.1, s.2.2.2.1 + 1, s.2.2.2.2.1, s.2.2.2.2.2)
def stp (d : Sp) (g : Nat → Nat) (w fi fa : Nat) (ch : Nat → Nat) (s : S6) : S6 := if (¬ fi < d.N ∨ ch fi = fa) ∧ Tot d g ch w < d.tp then nt d ch (Tot d g ch w) s else s
theorem stp_ext {d : Sp} {g : Nat → Nat} {w fi fa : Nat} {ch ch' : Nat → Nat} (h : ∀ i, i < d.N → ch i = ch' i) : stp d g w fi fa ch = stp d g w fi fa ch' := by
  funext s
  unfold stp nt
  rw [Tot_ext h, bt_ext h, nf_ext h]
  have e : (¬ fi < d.N ∨ ch fi = fa) ↔ (¬ fi < d.N ∨ ch' fi = fa) := by
    by_cases q : fi < d.N
    · rw [h fi q]
    · exact ⟨fun _ => Or.inl q, fun _ => Or.inl q⟩
  simp only [e]
def En {σ : Type} (d : Sp) (S : (Nat → Nat) → σ → σ) : Nat → Nat → (Nat → Nat) → σ → σ
  | 0, _, ch, s => S ch s
  | r + 1, k, ch, s => fo (fun a => En d S r (k + 1) (gu ch k a)) (d.z k) s
theorem fo_id {α : Type} {f : Nat → α → α} {s : α} : ∀ {n : Nat}, (∀ a, a < n → f a s = s) → fo f n s = s
  | 0, _ => rfl
  | n + 1, h => by
    unfold fo
    rw [fo_id (fun a ha => h a (by omega))]
    exact h n (by omega)
/-- what costs too much already is left -/
theorem En_cut {d : Sp} {g : Nat → Nat} {w fi fa : Nat} {s : S6} : ∀ (r k : Nat) (ch : Nat → Nat), k + r = d.N → d.tp ≤ g 168 + SJ d g ch w k → En d (stp d g w fi fa) r k ch s = s
  | 0, k, ch, h1, h2 => by
    have h1 : k = d.N := by omega
    subst h1
    unfold En stp Tot
    rw [if_neg (by omega)]
  | r + 1, k, ch, h1, h2 => by
    unfold En
    refine fo_id (fun a _ => En_cut r (k + 1) _ (by omega) ?_)
    have e : SJ d g (gu ch k a) w k = SJ d g ch w k := SJ_ext (fun i hi => gu_ne (by omega))
    have e2 : SJ d g (gu ch k a) w k ≤ SJ d g (gu ch k a) w (k + 1) := Nat.le_add_right _ _
    omega
theorem En_fix {d : Sp} {g : Nat → Nat} {w fi fa : Nat} {s : S6} : ∀ (r k : Nat) (ch : Nat → Nat), k + r = d.N → fi < k → fi < d.N → ch fi ≠ fa → En d (stp d g w fi fa) r k ch s = s
  | 0, k, ch, h1, h2, h3, h4 => by
    unfold En stp
    rw [if_neg (fun q => by rcases q.1 with q | q; exact q h3; exact h4 q)]
  | r + 1, k, ch, h1, h2, h3, h4 => by
    unfold En
    exact fo_id (fun a _ => En_fix r (k + 1) _ (by omega) (by omega) h3 (by rw [gu_ne (by omega)]; exact h4))
/-! numbers of choices -/
def Wc (d : Sp) : Nat → Nat → Nat
  | 0, _ => 1
  | r + 1, k => d.z k * Wc d r (k + 1)
def dg (d : Sp) (c i : Nat) : Nat := (c / Wc d (d.N - (i + 1)) (i + 1)) % d.z i
theorem Wc_pos {d : Sp} (hd : d.ok) : ∀ r k, k + r = d.N → 0 < Wc d r k
  | 0, _, _ => Nat.one_pos
  | r + 1, k, h => Nat.mul_pos (by have := Sp.hz hd (show k < d.N by omega); omega) (Wc_pos hd r (k + 1) (by omega))
theorem Wc_le {d : Sp} (hd : d.ok) : ∀ r k, k + r = d.N → Wc d r k ≤ 4 ^ r
  | 0, _, _ => Nat.le_refl _
  | r + 1, k, h => by
    have h1 := Wc_le hd r (k + 1) (by omega)
    have h2 := Sp.hz hd (show k < d.N by omega)
    unfold Wc
    rw [Nat.pow_succ, Nat.mul_comm]
    exact Nat.mul_le_mul h1 h2.2
theorem Wc_top {d : Sp} (hd : d.ok) : Wc d d.N 0 ≤ 4096 := by
  have h1 := Wc_le hd d.N 0 (by omega)
  have h2 : 4 ^ d.N ≤ 4 ^ 6 := Nat.pow_le_pow_right (by decide) hd.1
  have h3 : 4 ^ 6 = 4096 := by decide
  omega
theorem fo_add {α : Type} (f : Nat → α → α) (n : Nat) (s : α) : ∀ m, fo f (n + m) s = fo (fun y => f (n + y)) m (fo f n s)
  | 0 => rfl
  | m + 1 => by
    show f (n + m) (fo f (n + m) s) = f (n + m) (fo (fun y => f (n + y)) m (fo f n s))
    rw [fo_add f n s m]
theorem fo_mul {α : Type} (f : Nat → α → α) (m : Nat) (s : α) : ∀ n, fo f (n * m) s = fo (fun a => fo (fun y => f (a * m + y)) m) n s
  | 0 => by rw [Nat.zero_mul]; rfl
  | n + 1 => by
    rw [Nat.succ_mul, fo_add]
    show _ = fo (fun y => f (n * m + y)) m (fo (fun a => fo (fun y => f (a * m + y)) m) n s)
    rw [fo_mul f m s n]
theorem En_code {σ : Type} {d : Sp} (hd : d.ok) {S : (Nat → Nat) → σ → σ} (hS : ∀ ch ch', (∀ i, i < d.N → ch i = ch' i) → S ch = S ch') : ∀ (r k p : Nat) (ch : Nat → Nat) (s : σ), k + r = d.N → (∀ y, y < Wc d r k → ∀ i, i < k → dg d (p * Wc d r k + y) i = ch i) → fo (fun y => S (dg d (p * Wc d r k + y))) (Wc d r k) s = En d S r k ch s
  | 0, k, p, ch, s, h1, h2 => by
    show S (dg d (p * Wc d 0 k + 0)) s = S ch s
    rw [hS _ ch (fun i hi => h2 0 Nat.one_pos i (by omega))]
  | r + 1, k, p, ch, s, h1, h2 => by
    have hz := Sp.hz hd (show k < d.N by omega)
    have hW := Wc_pos hd r (k + 1) (by omega)
    show fo (fun y => S (dg d (p * (d.z k * Wc d r (k + 1)) + y))) (d.z k * Wc d r (k + 1)) s = fo (fun a => En d S r (k + 1) (gu ch k a)) (d.z k) s
    rw [fo_mul]
    refine fo_ext (fun a s' ha => ?_)
    have e : ∀ y, p * (d.z k * Wc d r (k + 1)) + (a * Wc d r (k + 1) + y) = (p * d.z k + a) * Wc d r (k + 1) + y := fun y => by
      rw [Nat.add_mul, Nat.mul_assoc, Nat.add_assoc]
    simp only [e]
    refine En_code hd hS r (k + 1) (p * d.z k + a) (gu ch k a) s' (by omega) (fun y hy i hi => ?_)
    by_cases q : i = k
    · subst q
      rw [gu_at]
      unfold dg
      rw [show d.N - (i + 1) = r by omega, Nat.add_comm, Nat.add_mul_div_right _ _ hW, Nat.div_eq_of_lt hy, Nat.zero_add, Nat.add_comm, Nat.add_mul_mod_self_right, Nat.mod_eq_of_lt ha]
    · rw [gu_ne q, ← e]
      refine h2 _ ?_ i (by omega)
      show a * Wc d r (k + 1) + y < d.z k * Wc d r (k + 1)
      have h5 : (a + 1) * Wc d r (k + 1) ≤ d.z k * Wc d r (k + 1) := Nat.mul_le_mul_right _ (by omega)
      rw [Nat.succ_mul] at h5
      omega
theorem En_all {σ : Type} {d : Sp} (hd : d.ok) {S : (Nat → Nat) → σ → σ} (hS : ∀ ch ch', (∀ i, i < d.N → ch i = ch' i) → S ch = S ch') (ch : Nat → Nat) (s : σ) : En d S d.N 0 ch s = fo (fun y => S (dg d y)) (Wc d d.N 0) s := by
  rw [← En_code hd hS d.N 0 0 ch s (by omega) (fun y _ i hi => by omega)]
  simp only [Nat.zero_mul, Nat.zero_add]
theorem dg_lt {d : Sp} (hd : d.ok) (c : Nat) {i : Nat} (hi : i < d.N) : dg d c i < d.z i := Nat.mod_lt _ (by have := Sp.hz hd hi; omega)
/-! what holds of what is kept -/
def J6 (d : Sp) (s : S6) : Prop := s.1 ≤ d.tp ∧ s.2.1 ≤ d.tp ∧ (s.2.2.1 = 0 ↔ s.2.2.2.1 = 0) ∧ (s.2.2.1 = 0 → s.1 = d.tp) ∧ (0 < s.2.2.1 → s.1 < d.tp)
def R6 (s s' : S6) : Prop := s.1 = s'.1 ∧ s.2.1 = s'.2.1 ∧ s.2.2.1 = s'.2.2.1 ∧ s.2.2.2.1 = s'.2.2.2.1 ∧ (0 < s.2.2.1 → s.2.2.2.2.1 = s'.2.2.2.2.1 ∧ s.2.2.2.2.2 = s'.2.2.2.2.2)
section PF
variable {d : Sp} {g : Nat → Nat} {w fi fa : Nat}
theorem J6_stp {s : S6} (h : J6 d s) (ch : Nat → Nat) : J6 d (stp d g w fi fa ch s) := by
  unfold stp
  split
  · rename_i q
    obtain ⟨h1, h2, h3, h4, h5⟩ := h
    have q2 := q.2
    unfold nt
    by_cases c1 : Tot d g ch w < s.1
    · rw [if_pos c1]
      refine ⟨?_, ?_, ?_, ?_, ?_⟩ <;> simp only <;> omega
    · rw [if_neg c1]
      by_cases c2 : Tot d g ch w = s.1
      · rw [if_pos c2]
        refine ⟨?_, ?_, ?_, ?_, ?_⟩ <;> simp only <;> omega
      · rw [if_neg c2]
        have hw : 0 < s.2.2.1 := by
          by_cases q : s.2.2.1 = 0
          · have := h4 q; omega
          · omega
        refine ⟨?_, ?_, ?_, ?_, ?_⟩ <;> simp only
        · omega
        · split <;> omega
        · omega
        · omega
        · exact h5
  · exact h
theorem R6_stp {s s' : S6} (h : J6 d s) (hr : R6 s s') (ch : Nat → Nat) : R6 (stp d g w fi fa ch s) (stp d g w fi fa ch s') := by
  unfold stp
  split
  · rename_i q
    obtain ⟨h1, h2, h3, h4, h5⟩ := h
    obtain ⟨r1, r2, r3, r4, r5⟩ := hr
    have q2 := q.2
    unfold nt
    rw [← r1, ← r2, ← r3, ← r4]
    by_cases c1 : Tot d g ch w < s.1
    · rw [if_pos c1, if_pos c1]
      exact ⟨rfl, rfl, rfl, rfl, fun _ => ⟨rfl, rfl⟩⟩
    · have hw : 0 < s.2.2.1 := by
        by_cases q : s.2.2.1 = 0
        · have := h4 q; omega
        · omega
      rw [if_neg c1, if_neg c1]
      by_cases c2 : Tot d g ch w = s.1
      · rw [if_pos c2, if_pos c2]
        refine ⟨rfl, rfl, rfl, rfl, fun _ => ⟨?_, (r5 hw).2⟩⟩
        simp only
        rw [(r5 hw).1]
      · rw [if_neg c2, if_neg c2]
        exact ⟨rfl, rfl, rfl, rfl, fun _ => r5 hw⟩
  · exact hr
theorem b_stp {s : S6} (ch : Nat → Nat) : (stp d g w fi fa ch s).2.2.1 ≤ s.2.2.1 + 1 ∧ (stp d g w fi fa ch s).2.2.2.1 ≤ s.2.2.2.1 + 1 := by
  unfold stp
  split
  · unfold nt
    split
    · simp only; omega
    · split <;> simp only <;> omega
  · omega
theorem fo_J6 {s : S6} (h : J6 d s) (C : Nat → Nat → Nat) (n : Nat) : J6 d (fo (fun y => stp d g w fi fa (C y)) n s) := fo_ind (P := J6 d) h (fun y s' _ h' => J6_stp h' (C y))
theorem fo_b6 {s : S6} (h1 : s.2.2.1 = 0) (h2 : s.2.2.2.1 = 0) (C : Nat → Nat → Nat) : ∀ n, (fo (fun y => stp d g w fi fa (C y)) n s).2.2.1 ≤ n ∧ (fo (fun y => stp d g w fi fa (C y)) n s).2.2.2.1 ≤ n
  | 0 => by unfold fo; omega
  | n + 1 => by
    have h3 := fo_b6 h1 h2 C n
    have h4 := b_stp (d := d) (g := g) (w := w) (fi := fi) (fa := fa) (s := fo (fun y => stp d g w fi fa (C y)) n s) (C n)
    unfold fo
    omega
theorem fo_R6 {s s' : S6} (h : J6 d s) (hr : R6 s s') (C : Nat → Nat → Nat) : ∀ n, R6 (fo (fun y => stp d g w fi fa (C y)) n s) (fo (fun y => stp d g w fi fa (C y)) n s')
  | 0 => hr
  | n + 1 => R6_stp (fo_J6 h C n) (fo_R6 h hr C n) (C n)
def lst (d : Sp) (g : Nat → Nat) (w fi fa : Nat) (ch : Nat → Nat) (l : Nat) : Nat := if ¬ fi < d.N ∨ ch fi = fa then (if Tot d g ch w < l then Tot d g ch w else l) else l
theorem En_J6 : ∀ (r k : Nat) (ch : Nat → Nat) (s : S6), J6 d s → J6 d (En d (stp d g w fi fa) r k ch s)
  | 0, _, ch, _, h => J6_stp h ch
  | r + 1, k, ch, s, h => fo_ind (P := J6 d) h (fun a s' _ h' => En_J6 r (k + 1) (gu ch k a) s' h')
theorem lst_stp {s : S6} (h : J6 d s) (ch : Nat → Nat) : (stp d g w fi fa ch s).1 = lst d g w fi fa ch s.1 := by
  have h1 := h.1
  have h2 := Tot_le d g ch w
  unfold stp lst
  by_cases c1 : ¬ fi < d.N ∨ ch fi = fa
  · rw [if_pos c1]
    by_cases c2 : Tot d g ch w < d.tp
    · rw [if_pos ⟨c1, c2⟩]
      unfold nt
      by_cases c3 : Tot d g ch w < s.1
      · rw [if_pos c3, if_pos c3]
      · rw [if_neg c3, if_neg c3]
        split <;> rfl
    · rw [if_neg (fun q => c2 q.2), if_neg (by omega)]
  · rw [if_neg c1, if_neg (fun q => c1 q.1)]
theorem fo_lst {s : S6} (h : J6 d s) (C : Nat → Nat → Nat) : ∀ n, (fo (fun y => stp d g w fi fa (C y)) n s).1 = fo (fun y => lst d g w fi fa (C y)) n s.1
  | 0 => rfl
  | n + 1 => by
    have h3 := fo_lst h C n
    have h4 := lst_stp (g := g) (w := w) (fi := fi) (fa := fa) (fo_J6 (g := g) (w := w) (fi := fi) (fa := fa) h C n) (C n)
    show (stp d g w fi fa (C n) (fo (fun y => stp d g w fi fa (C y)) n s)).1 = lst d g w fi fa (C n) (fo (fun y => lst d g w fi fa (C y)) n s.1)
    rw [h4, h3]
end PF

/-- rooms as numbers: each host's room is at most the number of rooms before it -/
def rb (s : Nat → Nat) : Nat → Nat
  | 0 => 0
  | j + 1 => max (rb s j) (s j + 1)
theorem rb_cg {s t : Nat → Nat} : ∀ k, (∀ j, j < k → t j = s j) → rb t k = rb s k
  | 0, _ => rfl
  | k + 1, h => by rw [rb, rb, rb_cg k (fun j hj => h j (by omega)), h k (by omega)]
def RGS (n : Nat) (s : Nat → Nat) : Prop := ∀ j, j < n → s j ≤ rb s j
theorem rb_le {s : Nat → Nat} : ∀ k, RGS k s → rb s k ≤ k
  | 0, _ => Nat.le_refl _
  | k + 1, h => by
    have h1 := rb_le k (fun j hj => h j (by omega))
    have h2 := h k (by omega)
    rw [rb]; omega
theorem rb_mono {s : Nat → Nat} {j : Nat} : ∀ k, j ≤ k → rb s j ≤ rb s k
  | 0, h => by
    have : j = 0 := by omega
    subst this; exact Nat.le_refl _
  | k + 1, h => by
    rcases Nat.lt_or_ge j (k + 1) with q | q
    · have := rb_mono (s := s) (j := j) k (by omega)
      rw [rb]; omega
    · have : j = k + 1 := by omega
      subst this; exact Nat.le_refl _
theorem rb_at {s : Nat → Nat} {j k : Nat} (h : j < k) : s j < rb s k := by
  have h1 := rb_mono (s := s) (j := j + 1) k h
  have h2 : rb s (j + 1) = max (rb s j) (s j + 1) := rfl
  omega
/-- every room below the number of rooms has a host -/
theorem rb_has {s : Nat → Nat} {a : Nat} : ∀ k, RGS k s → a < rb s k → ∃ j, j < k ∧ s j = a
  | 0, _, h => absurd h (Nat.not_lt_zero a)
  | k + 1, hr, h => by
    have hr' : RGS k s := fun j hj => hr j (by omega)
    have h2 := hr k (by omega)
    rcases Nat.lt_or_ge a (rb s k) with q | q
    · obtain ⟨j, h3, h4⟩ := rb_has k hr' q
      exact ⟨j, by omega, h4⟩
    · rw [rb] at h
      exact ⟨k, by omega, by omega⟩
def fr (k : Nat) (s : Nat → Nat) (j : Nat) : Int32 := if j < k then nI (s j) else (-1)
theorem fr_cg {k : Nat} {s t : Nat → Nat} (h : ∀ j, j < k → t j = s j) : fr k t = fr k s := by
  funext j
  unfold fr
  by_cases q : j < k
  · rw [if_pos q, if_pos q, h j q]
  · rw [if_neg q, if_neg q]
theorem fr_in {k j : Nat} {s : Nat → Nat} (h : j < k) : fr k s j = nI (s j) := if_pos h
theorem fr_out {k j : Nat} {s : Nat → Nat} (h : k ≤ j) : fr k s j = (-1) := if_neg (by omega)
theorem fr_lt {k j x : Nat} {s : Nat → Nat} (hx : x < 2 ^ 31) (e : fr k s j = nI x) : j < k := by
  rcases Nat.lt_or_ge j k with q | q
  · exact q
  · exact absurd ((fr_out q).symm.trans e) (nm1_ne' hx)
theorem RGS.lt {k j : Nat} {s : Nat → Nat} (h : RGS k s) (hk : k ≤ 8) (hj : j < k) : s j < 8 := by
  have h1 := rb_at (s := s) hj
  have h2 := rb_le k h
  omega
theorem fr_RV {k : Nat} {s : Nat → Nat} (h : RGS k s) (hk : k ≤ 8) : RV (fr k s) := fun j hj => by
  rcases Nat.lt_or_ge j k with q | q
  · exact Or.inr ⟨s j, h.lt hk q, fr_in q⟩
  · exact Or.inl (fr_out q)
theorem fr_EXT {k n : Nat} {s t : Nat → Nat} (hk : k ≤ n) (h : ∀ j, j < k → t j = s j) : EXT (fr k s) (fr n t) := fun j _ => by
  rcases Nat.lt_or_ge j k with q | q
  · exact Or.inr (by rw [fr_in q, fr_in (show j < n by omega), h j q])
  · exact Or.inl (fr_out q)
def LX (n : Nat) (t s : Nat → Nat) : Prop := ∃ j, j < n ∧ (∀ i, i < j → t i = s i) ∧ t j < s j
theorem LX.asym {n : Nat} {s t : Nat → Nat} (h : LX n t s) (h' : LX n s t) : False := by
  obtain ⟨j, a, b, c⟩ := h
  obtain ⟨k, d, e, f⟩ := h'
  rcases Nat.lt_trichotomy j k with q | q | q
  · have := e j q; omega
  · subst q; omega
  · have := b k q; omega
theorem lex_3 {s t : Nat → Nat} : ∀ n, (∀ j, j < n → t j = s j) ∨ LX n t s ∨ LX n s t
  | 0 => Or.inl (fun j hj => absurd hj (Nat.not_lt_zero j))
  | n + 1 => by
    rcases lex_3 (s := s) (t := t) n with h | ⟨j, a, b, c⟩ | ⟨j, a, b, c⟩
    · rcases Nat.lt_trichotomy (t n) (s n) with q | q | q
      · exact Or.inr (Or.inl ⟨n, by omega, h, q⟩)
      · refine Or.inl (fun j hj => ?_)
        rcases Nat.lt_or_ge j n with q2 | q2
        · exact h j q2
        · have : j = n := by omega
          subst this; exact q
      · exact Or.inr (Or.inr ⟨n, by omega, fun i hi => (h i hi).symm, q⟩)
    · exact Or.inr (Or.inl ⟨j, by omega, b, c⟩)
    · exact Or.inr (Or.inr ⟨j, by omega, b, c⟩)
/-- what lies before the search's place -/
def EX (h c : Nat) (s t : Nat → Nat) : Prop := (∃ j, j < h ∧ (∀ i, i < j → t i = s i) ∧ t j < s j) ∨ ((∀ i, i < h → t i = s i) ∧ t h < c)
theorem EX.LX {h c n : Nat} {s t f : Nat → Nat} (hn : h < n) (e : EX h c s f) (ht : ∀ i, i < h → t i = s i) (hc : c ≤ t h) : LX n f t := by
  rcases e with ⟨j, a, b, d⟩ | ⟨a, b⟩
  · exact ⟨j, by omega, fun i hi => by rw [ht i (by omega)]; exact b i hi, by rw [ht j a]; exact d⟩
  · exact ⟨h, hn, fun i hi => by rw [ht i hi]; exact a i hi, by omega⟩
def Wf : Nat → Nat
  | 0 => 0
  | k + 1 => (8 - k) * (1 + Wf k) + 1
def Wh (h : Nat) : Nat := Wf (8 - h)
theorem Wh_s {h : Nat} (hh : h < 8) : Wh h = (h + 1) * (1 + Wh (h + 1)) + 1 := by
  unfold Wh
  rw [show 8 - h = (7 - h) + 1 by omega, Wf, show 8 - (7 - h) = h + 1 by omega, show 8 - (h + 1) = 7 - h by omega]
theorem Wh_0 : Wh 0 = 52147 := by decide +kernel
def rst (s : Nat → Nat) : Nat → Nat
  | 0 => 0
  | j + 1 => rst s j + (j - s j) * (1 + Wh (j + 1)) + 1
theorem rst_cg {s t : Nat → Nat} : ∀ k, (∀ j, j < k → t j = s j) → rst t k = rst s k
  | 0, _ => rfl
  | k + 1, h => by rw [rst, rst, rst_cg k (fun j hj => h j (by omega)), h k (by omega)]
def mu (h c : Nat) (s : Nat → Nat) : Nat := rst s h + (h + 1 - c) * (1 + Wh (h + 1)) + 1
theorem mu_0 (s : Nat → Nat) : mu 0 0 s = 52147 := by
  unfold mu
  rw [rst, ← Wh_0, Wh_s (show 0 < 8 by omega)]
  omega
theorem mu_pop {h c : Nat} {s : Nat → Nat} : mu h (s h + 1) s < mu (h + 1) c s := by
  unfold mu
  rw [rst, show h + 1 - (s h + 1) = h - s h by omega]
  omega
theorem mu_next {h c : Nat} {s t : Nat → Nat} (hc : c ≤ h) (hs : ∀ j, j < h → t j = s j) : mu h (c + 1) t + (1 + Wh (h + 1)) = mu h c s := by
  unfold mu
  rw [rst_cg h hs, show h + 1 - c = (h + 1 - (c + 1)) + 1 by omega, Nat.succ_mul]
  omega
theorem mu_push {h c : Nat} {s t : Nat → Nat} (hh : h + 1 < 8) (hc : c ≤ h) (hs : ∀ j, j < h → t j = s j) (ht : t h = c) : mu (h + 1) 0 t < mu h c s := by
  have h1 := mu_next hc hs
  have h2 : mu (h + 1) 0 t + 1 = mu h (c + 1) t + Wh (h + 1) + 1 := by
    have e : mu h (c + 1) t = rst t (h + 1) := by
      unfold mu
      rw [rst, ht, show h + 1 - (c + 1) = h - c by omega]
    rw [e]
    unfold mu
    rw [Wh_s hh]
    simp only [Nat.sub_zero]
    omega
  omega
def upN (s : Nat → Nat) (h c : Nat) (j : Nat) : Nat := if j = h then c else s j
theorem upN_lt {s : Nat → Nat} {h c j : Nat} (hj : j < h) : upN s h c j = s j := if_neg (by omega)
theorem upN_eq {s : Nat → Nat} {h c : Nat} : upN s h c h = c := if_pos rfl
theorem RGS.up {s : Nat → Nat} {h c : Nat} (H : RGS h s) (hc : c ≤ rb s h) : RGS (h + 1) (upN s h c) := fun j hj => by
  rcases Nat.lt_or_ge j h with q | q
  · rw [upN_lt q, rb_cg (s := s) j (fun i hi => upN_lt (by omega))]; exact H j q
  · have : j = h := by omega
    subst this
    rw [upN_eq, rb_cg (s := s) j (fun i hi => upN_lt hi)]; exact hc
/-- hosts of unlike marks in one room -/
def MX (mk ρ : Nat → Int32) : Prop := ∃ i j, i < 8 ∧ j < 8 ∧ ρ i = ρ j ∧ ρ i ≠ (-1) ∧ mk i ≠ mk j
def UN (mk ρ : Nat → Int32) (h : Nat) : Prop := ∃ j, j < 8 ∧ ρ j = ρ h ∧ mk j ≠ mk h
theorem MX.mono {mk ρ ρ' : Nat → Int32} (h : EXT ρ ρ') (q : MX mk ρ) : MX mk ρ' := by
  obtain ⟨i, j, a, b, c, d, e⟩ := q
  have h1 := (h i a).resolve_left d
  have h2 := (h j b).resolve_left (by rw [← c]; exact d)
  exact ⟨i, j, a, b, by rw [h1, h2]; exact c, by rw [h1]; exact d, e⟩
theorem MX_UN {mk : Nat → Int32} {s : Nat → Nat} {h : Nat} (hh : h < 8) (hd : fr (h + 1) s h ≠ (-1)) (H : ¬ MX mk (fr h s)) : MX mk (fr (h + 1) s) ↔ UN mk (fr (h + 1) s) h := by
  constructor
  · rintro ⟨i, j, a, b, c, d, e⟩
    have hi : i < h + 1 := Nat.lt_of_not_le (fun q => d (fr_out q))
    have hj : j < h + 1 := Nat.lt_of_not_le (fun q => d (c.trans (fr_out q)))
    by_cases q1 : i = h
    · subst q1; exact ⟨j, b, c.symm, fun e2 => e e2.symm⟩
    · by_cases q2 : j = h
      · subst q2; exact ⟨i, a, c, e⟩
      · refine absurd ⟨i, j, a, b, ?_, ?_, e⟩ H
        · rw [fr_in (show i < h by omega), fr_in (show j < h by omega), ← fr_in hi, ← fr_in hj]; exact c
        · rw [fr_in (show i < h by omega), ← fr_in hi]; exact d
  · rintro ⟨j, a, b, c⟩
    exact ⟨j, h, a, hh, b, by rw [b]; exact hd, c⟩

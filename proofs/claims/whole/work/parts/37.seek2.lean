theorem nI_m1 (a : Nat) : nI (a + 1) + (-1) = nI a := (Int32.sub_eq_add_neg _ _).symm.trans (nI_pred a)
theorem UN.cg {mk ρ ρ' : Nat → Int32} {h : Nat} (hh : h < 8) (e : ∀ j, j < 8 → ρ' j = ρ j) : UN mk ρ' h ↔ UN mk ρ h := by
  unfold UN
  refine ⟨fun ⟨j, a, b, c⟩ => ⟨j, a, ?_, c⟩, fun ⟨j, a, b, c⟩ => ⟨j, a, ?_, c⟩⟩
  · rw [← e j a, ← e h hh]; exact b
  · rw [e j a, e h hh]; exact b
def cSk (k j : Nat) : Bool := k == 23 || k == 24 || k == 25 || k == 26 || (k == 22 && (j == 2 || j == 3 || j == 4)) || (k == 21 && (j == 3 || j == 4))
theorem cSk_Ch {τ υ : Hp} (h : Sx cCh τ υ) : Sx cSk τ υ := h.mono (fun k j q => by
  unfold cSk at q
  unfold cCh
  simp only [Bool.or_eq_false_iff, Bool.and_eq_false_iff, beq_eq_false_iff_ne] at q ⊢
  omega)
def SKI (τ : Hp) (D B : Nat → Int32) (rp sp n L0 : Nat) (s : Hp × Int32 × Int32 × Nat) : Prop := Sx cSk τ s.1 ∧ ∃ st L, s.2.2.1 = nI st ∧ st + s.2.2.2 ≤ 52147 ∧ s.1 21 4 = nI L ∧
  ((s.2.1 = (-1) ∧ BST (τ 2) (τ 5 2 = 1) D B rp sp n L0 (fun _ => True) L (s.1 26)) ∨
   (∃ h c u, s.2.1 = nI h ∧ h < n ∧ c ≤ rb u h + 1 ∧ RGS h u ∧ (τ 5 2 = 1 → ¬ MX (τ 2) (fr h u)) ∧ (∀ j, j < 8 → s.1 23 j = if j < h then nI (u j) else if j = h then nI c - 1 else (-1)) ∧ (∀ j, j ≤ h → s.1 25 j = nI (rb u j)) ∧ s.2.2.2 = mu h c u ∧ BST (τ 2) (τ 5 2 = 1) D B rp sp n L0 (EX h c u) L (s.1 26)))
theorem EX_s {h c : Nat} {u t : Nat → Nat} (e : EX h (c + 1) u t) : EX h c u t ∨ ((∀ i, i < h → t i = u i) ∧ t h = c) := by
  rcases e with e | ⟨a, b⟩
  · exact Or.inl (Or.inl e)
  · rcases Nat.lt_or_ge (t h) c with q | q
    · exact Or.inl (Or.inr ⟨a, q⟩)
    · exact Or.inr ⟨a, by omega⟩
theorem EX_m {h c : Nat} {u t : Nat → Nat} (e : EX h c u t) : EX h (c + 1) u t := e.imp id (fun q => ⟨q.1, by omega⟩)
theorem seek_step {N n rp sp L0 h c st L : Nat} {τ υ : Hp} {D B : Nat → Int32} {u : Nat → Nat} {K : Hp → Int32 → Int32 → OR} (hN : 1000 ≤ N) (hn : n ≤ 8) (h1 : τ 1 3 = nI n) (h2 : τ 5 2 = 0 ∨ τ 5 2 = 1) (h3 : τ 5 3 = nI rp) (h4 : τ 5 4 = nI sp) (hrp : rp ≤ 99) (hsp : sp ≤ 99) (hL0 : L0 ≤ 60000) (hQ : RB (τ 19) D) (hB : RB (τ 4) B)
    (sx : Sx cSk τ υ) (hst : st + mu h c u ≤ 52147) (hL : υ 21 4 = nI L) (hh : h < n) (hc : c ≤ rb u h + 1) (hu : RGS h u) (hm : τ 5 2 = 1 → ¬ MX (τ 2) (fr h u)) (h23 : ∀ j, j < 8 → υ 23 j = if j < h then nI (u j) else if j = h then nI c - 1 else (-1)) (h25 : ∀ j, j ≤ h → υ 25 j = nI (rb u j)) (hb : BST (τ 2) (τ 5 2 = 1) D B rp sp n L0 (EX h c u) L (υ 26)) :
    ∃ υ' v M, f_Sk_seekRooms_L47b N 21 1 5 18 K υ (nI h) (nI st) = K υ' v (nI (st + 1)) ∧ SKI τ D B rp sp n L0 (υ', v, nI (st + 1), M) ∧ M < mu h c u := by
  have hrb := rb_le h hu
  have mp : 0 < mu h c u := by unfold mu; omega
  have hL2 := hb.lt hL0 hrp hsp
  have i8 : inb (nI h) 8 = true := inb_n (by omega) (by omega)
  unfold f_Sk_seekRooms_L47b
  rw [if_neg (show ¬ (1000000 : Int32) ≤ nI st from nI_ge (b := 1000000) (by omega) (by omega)), if_neg (nI_pos (by omega)), ogd_t _ i8, ogd_t _ i8, nI_clamp (n := h) (by omega), ilet_s, ogd_t _ i8, ogd_t _ i8]
  obtain ⟨τ1, e1⟩ : ∃ x : Hp, x = upR υ 23 (upd (υ 23) h (nI c)) := ⟨_, rfl⟩
  have eh : υ 23 h + 1 = nI c := by rw [h23 h (by omega), if_neg (Nat.lt_irrefl h), if_pos rfl]; exact nI_mp c
  rw [show upR υ (21 + 2) (upd (υ (21 + 2)) h (υ (21 + 2) h + 1)) = τ1 by rw [e1]; show upR υ 23 (upd (υ 23) h (υ 23 h + 1)) = _; rw [eh]]
  have t23 : ∀ j, τ1 23 j = if j = h then nI c else υ 23 j := fun j => by rw [e1, upR_eq, upd_at]
  have r23 : ∀ j, j < 8 → τ1 23 j = fr (h + 1) (upN u h c) j := fun j hj => by
    rw [t23]
    by_cases q : j = h
    · subst q; rw [if_pos rfl, fr_in (by omega), upN_eq]
    · rw [if_neg q, h23 j hj, if_neg q]
      by_cases q2 : j < h
      · rw [if_pos q2, fr_in (by omega), upN_lt q2]
      · rw [if_neg q2, fr_out (by omega)]
  have r25 : τ1 25 = υ 25 := by rw [e1]; rfl
  have r26 : τ1 26 = υ 26 := by rw [e1]; rfl
  have r21 : τ1 21 = υ 21 := by rw [e1]; rfl
  have s1 : Sx cSk τ τ1 := sx.tr (by rw [e1]; exact Sx.u (fun j q => by cases q))
  rw [show τ1 (21 + 2) h = nI c from (t23 h).trans (if_pos rfl), show τ1 (21 + 4) h = nI (rb u h) by show τ1 25 h = _; rw [r25]; exact h25 h (Nat.le_refl _)]
  by_cases hcr : c ≤ rb u h
  · rw [if_pos (nI_le hcr (by omega)), nI_1]
    have hw := hu.up hcr
    obtain ⟨υ', c1, c2⟩ := cheap_y (N := N) (h := h) (k := h + 1) (L := L) (rp := rp) (sp := sp) (υ := τ1) (D := D) (B := B) hN (by omega) (by omega) (by rw [s1 5 2 rfl]; exact h2) (by rw [s1 5 3 rfl]; exact h3) (by rw [s1 5 4 rfl]; exact h4) hrp hsp (by rw [r21]; exact hL) hL2 (fun j hj => by rw [r23 j hj]; exact fr_RV hw (by omega) j hj) (fun j hj hj8 => by rw [r23 j hj8]; exact fr_out hj) (by rw [s1.row 19 (fun _ => rfl)]; exact hQ) (by rw [s1.row 4 (fun _ => rfl)]; exact hB)
    have s2 : Sx cSk τ υ' := s1.tr (cSk_Ch c1)
    have m1 := mu_next (h := h) (c := c) (s := u) (t := u) (by omega) (fun _ _ => rfl)
    have m2 := mu_next (h := h) (c := c) (s := u) (t := upN u h c) (by omega) (fun j hj => upN_lt hj)
    have P : ((τ1 5 2 = 1 → ¬ UN (τ1 2) (τ1 23) h) ∧ ¬ BRD (τ1 23) D B ∧ csO rp sp (τ1 23) D < L) ↔ (FE (τ 2) (τ 5 2 = 1) D B (fr (h + 1) (upN u h c)) ∧ csO rp sp (fr (h + 1) (upN u h c)) D < L) := by
      rw [s1 5 2 rfl, s1.row 2 (fun _ => rfl), UN.cg (by omega) r23, BRD.cg r23 (fun _ _ => rfl) (fun _ _ => rfl), csO_cg r23 (fun _ _ => rfl)]
      unfold FE
      have k : τ 5 2 = 1 → (MX (τ 2) (fr (h + 1) (upN u h c)) ↔ UN (τ 2) (fr (h + 1) (upN u h c)) h) := fun e => MX_UN (by omega) (by rw [fr_in (by omega), upN_eq]; exact nm1_ne (by omega)) (by rw [fr_cg (s := u) (fun j hj => upN_lt hj)]; exact hm e)
      constructor
      · rintro ⟨a, b, c⟩
        exact ⟨⟨fun e g => a e ((k e).mp g), b⟩, c⟩
      · rintro ⟨⟨a, b⟩, c⟩
        exact ⟨fun e g => a e ((k e).mpr g), b, c⟩
    have stay : ∀ ω : Hp, (∀ j, j < 8 → ω 23 j = τ1 23 j) → ∀ j, j < 8 → ω 23 j = if j < h then nI (u j) else if j = h then nI (c + 1) - 1 else (-1) := fun ω e j hj => by
      rw [e j hj, t23, nI_pred]
      by_cases q : j = h
      · rw [if_pos q, if_neg (by omega), if_pos q]
      · rw [if_neg q, h23 j hj, if_neg q, if_neg q]
    rcases c2 with ⟨p, c3, c4⟩ | ⟨p, c3⟩
    · have p' := P.mp p
      rw [c3, obd_s, if_neg (by decide), s2 1 3 rfl, h1]
      unfold f_Sk_goOn
      rw [nI_1]
      by_cases hlt : h + 1 < n
      · rw [if_pos (nI_lt hlt (by omega)), ogd_t _ i8, ogd_t _ i8, ogd_t _ (inb_n (show h + 1 < 8 by omega) (by omega)), nI_clamp (n := h) (by omega), nI_clamp (n := h + 1) (by omega), ilet_s, obd_s, ilet_s, nI_1]
        have ei : imax (υ' (21 + 4) h) (υ' (21 + 2) h + 1) = nI (rb (upN u h c) (h + 1)) := by
          show imax (υ' 25 h) (υ' 23 h + 1) = _
          rw [c1 25 h rfl, c1 23 h rfl, r25, h25 h (Nat.le_refl _), t23, if_pos rfl, nI_1, imax_n (by omega) (by omega), rb, upN_eq, rb_cg (s := u) h (fun j hj => upN_lt hj)]
        rw [ei]
        refine ⟨_, _, mu (h + 1) 0 (upN u h c), rfl, ⟨s2.tr (Sx.ud rfl), st + 1, L, rfl, ?_, ?_, Or.inr ⟨h + 1, 0, upN u h c, rfl, hlt, by omega, hw, p'.1.1, fun j hj => ?_, fun j hj => ?_, rfl, ?_⟩⟩, mu_push (by omega) (by omega) (fun j hj => upN_lt hj) upN_eq⟩
        · show st + 1 + mu (h + 1) 0 (upN u h c) ≤ 52147
          have := mu_push (h := h) (c := c) (s := u) (t := upN u h c) (by omega) (by omega) (fun j hj => upN_lt hj) upN_eq
          omega
        · show υ' 21 4 = nI L
          rw [c1 21 4 rfl, r21]; exact hL
        · show υ' 23 j = _
          rw [c1 23 j rfl, r23 j hj]
          by_cases q : j < h + 1
          · rw [if_pos q, fr_in q]
          · rw [if_neg q, fr_out (by omega)]
            by_cases q2 : j = h + 1
            · rw [if_pos q2]; rfl
            · rw [if_neg q2]
        · show upd (υ' 25) (h + 1) (nI (rb (upN u h c) (h + 1))) j = _
          rw [upd_at]
          by_cases q : j = h + 1
          · rw [if_pos q, q]
          · rw [if_neg q, c1 25 j rfl, r25, h25 j (by omega), rb_cg (s := u) j (fun i hi => upN_lt (by omega))]
        · refine hb.ext (fun j hj => ?_) (fun t _ e => ?_) (fun t _ e _ => Or.inl ?_)
          · show υ' 26 j = υ 26 j
            rw [c1 26 j rfl, r26]
          · rcases e with ⟨j, a, b, d⟩ | ⟨a, b⟩
            · exact Or.inl ⟨j, by omega, fun i hi => by rw [upN_lt (by omega)]; exact b i hi, by rw [upN_lt a]; exact d⟩
            · exact Or.inl ⟨h, by omega, fun i hi => by rw [upN_lt hi]; exact a i hi, by rw [upN_eq]; exact b⟩
          · rcases e with ⟨j, a, b, d⟩ | ⟨a, b⟩
            · by_cases q : j = h
              · subst q
                rw [upN_eq] at d
                exact Or.inr ⟨fun i hi => by rw [b i hi, upN_lt hi], d⟩
              · rw [upN_lt (by omega)] at d
                exact Or.inl ⟨j, by omega, fun i hi => by rw [b i hi, upN_lt (by omega)], d⟩
            · exact absurd b (Nat.not_lt_zero _)
      · have hn1 : n = h + 1 := by omega
        rw [if_neg (nI_nlt (show n ≤ h + 1 by omega) (by omega))]
        unfold f_Sk_keepTrial
        rw [ilet_s, ilet_s, obd_s, obd_s, ilet_s, nI_1]
        refine ⟨_, _, mu h (c + 1) u, rfl, ⟨(s2.tr (Sx.u (k := 26) (fun j q => by cases q))).tr (Sx.ud (τ := cpR υ' 23 26 8) (k := 21) (i := 4) rfl), st + 1, csO rp sp (fr n (upN u h c)) D, rfl, ?_, ?_, Or.inr ⟨h, c + 1, u, rfl, hh, by omega, hu, hm, ?_, fun j hj => ?_, rfl, ?_⟩⟩, by omega⟩
        · show st + 1 + mu h (c + 1) u ≤ 52147
          omega
        · show υ' 21 3 = _
          rw [c4, csO_cg r23 (fun _ _ => rfl), hn1]
        · exact stay _ (fun j _ => c1 23 j rfl)
        · show υ' 25 j = _
          rw [c1 25 j rfl, r25]; exact h25 j hj
        · refine hb.keep (s := upN u h c) (by rw [hn1]; exact hw) (Or.inr ⟨fun i hi => upN_lt hi, by rw [upN_eq]; omega⟩) (by rw [hn1]; exact p'.1) (by rw [hn1]; exact p'.2) (fun j hj => ?_) (fun t _ e => ?_)
          · show va_cpy (υ' 23) (υ' 26) 0 0 8 j = _
            rw [sb_cpy0 hj, c1 23 j rfl, r23 j hj, hn1]
          · rcases EX_s e with g | ⟨a, b⟩
            · exact Or.inl g
            · refine Or.inr (fun j hj => ?_)
              by_cases q : j = h
              · subst q; rw [upN_eq]; exact b
              · rw [upN_lt (by omega)]; exact a j (by omega)
    · rw [c3, obd_s, if_pos rfl, ilet_s, nI_1]
      refine ⟨_, _, mu h (c + 1) u, rfl, ⟨s2, st + 1, L, rfl, ?_, ?_, Or.inr ⟨h, c + 1, u, rfl, hh, by omega, hu, hm, ?_, fun j hj => ?_, rfl, ?_⟩⟩, by omega⟩
      · show st + 1 + mu h (c + 1) u ≤ 52147
        omega
      · show υ' 21 4 = nI L
        rw [c1 21 4 rfl, r21]; exact hL
      · exact stay _ (fun j _ => c1 23 j rfl)
      · show υ' 25 j = _
        rw [c1 25 j rfl, r25]; exact h25 j hj
      · refine hb.ext (fun j hj => ?_) (fun t _ e => EX_m e) (fun t _ e f => ?_)
        · show υ' 26 j = υ 26 j
          rw [c1 26 j rfl, r26]
        · rcases EX_s e with g | ⟨a, b⟩
          · exact Or.inl g
          · have hx : EXT (fr (h + 1) (upN u h c)) (fr n t) := fr_EXT (by omega) (fun j hj => by
              by_cases q : j = h
              · subst q; rw [upN_eq]; exact b
              · rw [upN_lt (by omega)]; exact a j (by omega))
            refine Or.inr ⟨?_, fun f e => e.LX hh a (by omega)⟩
            have k1 := csO_mono (rp := rp) (sp := sp) (D := D) hx
            have k2 : ¬ csO rp sp (fr (h + 1) (upN u h c)) D < L := fun g => p (P.mpr ⟨f.anti hx, g⟩)
            omega
  · rw [if_neg (nI_ge (by omega) (by omega)), ogd_t _ i8, ilet_s, ilet_s, ilet_s, nI_1]
    have s2 : Sx cSk τ (upR τ1 23 (upd (τ1 23) h (-1))) := s1.tr (Sx.ud rfl)
    rcases Nat.eq_zero_or_pos h with h0 | h0
    · subst h0
      refine ⟨_, _, 0, rfl, ⟨s2, st + 1, L, rfl, ?_, ?_, Or.inl ⟨rfl, ?_⟩⟩, mp⟩
      · show st + 1 + 0 ≤ 52147
        omega
      · show τ1 21 4 = nI L
        rw [r21]; exact hL
      · refine hb.ext (fun j _ => ?_) (fun _ _ _ => trivial) (fun t g _ _ => Or.inl (Or.inr ⟨fun i hi => absurd hi (Nat.not_lt_zero i), ?_⟩))
        · show τ1 26 j = _
          rw [r26]
        · have := g 0 (by omega)
          have e : rb t 0 = 0 := rfl
          omega
    · obtain ⟨h', rfl⟩ : ∃ h', h = h' + 1 := ⟨h - 1, by omega⟩
      have mq := mu_pop (h := h') (c := c) (s := u)
      rw [nI_m1]
      have hu' : RGS h' u := fun j hj => hu j (by omega)
      have hlast := hu h' (by omega)
      refine ⟨_, _, mu h' (u h' + 1) u, rfl, ⟨s2, st + 1, L, rfl, ?_, ?_, Or.inr ⟨h', u h' + 1, u, rfl, by omega, by omega, hu', fun e g => hm e (g.mono (fr_EXT (by omega) (fun _ _ => rfl))), fun j hj => ?_, fun j hj => ?_, rfl, ?_⟩⟩, mq⟩
      · show st + 1 + mu h' (u h' + 1) u ≤ 52147
        omega
      · show τ1 21 4 = nI L
        rw [r21]; exact hL
      · show upd (τ1 23) (h' + 1) (-1) j = _
        rw [upd_at, nI_pred]
        by_cases q : j = h' + 1
        · rw [if_pos q, if_neg (by omega), if_neg (by omega)]
        · rw [if_neg q, t23, if_neg q, h23 j hj, if_neg q]
          by_cases q2 : j < h'
          · rw [if_pos (by omega), if_pos q2]
          · by_cases q3 : j = h'
            · rw [if_pos (by omega), if_neg q2, if_pos q3, q3]
            · rw [if_neg (by omega), if_neg q2, if_neg q3]
      · show τ1 25 j = _
        rw [r25]; exact h25 j (by omega)
      · refine hb.ext (fun j _ => ?_) (fun t gr e => ?_) (fun t g e _ => Or.inl ?_)
        · show τ1 26 j = _
          rw [r26]
        · rcases e with ⟨j, a, b, d⟩ | ⟨a, b⟩
          · by_cases q : j = h'
            · subst q; exact Or.inr ⟨b, by omega⟩
            · exact Or.inl ⟨j, by omega, b, d⟩
          · exact Or.inr ⟨fun i hi => a i (by omega), by rw [a h' (by omega)]; omega⟩
        · rcases e with ⟨j, a, b, d⟩ | ⟨a, b⟩
          · exact Or.inl ⟨j, by omega, b, d⟩
          · rcases Nat.lt_or_ge (t h') (u h') with q | q
            · exact Or.inl ⟨h', by omega, a, q⟩
            · have al : ∀ i, i < h' + 1 → t i = u i := fun i hi => by
                by_cases q2 : i = h'
                · subst q2; omega
                · exact a i (by omega)
              have k1 := g (h' + 1) (by omega)
              rw [rb_cg (h' + 1) al] at k1
              exact Or.inr ⟨al, by omega⟩

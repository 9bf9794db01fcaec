theorem settle_r {N n rp sp : Nat} {τ : Hp} {D Bq ρ : Nat → Int32} (hN : 1000 ≤ N) (hn : n ≤ 8) (h1 : τ 1 3 = nI n) (h3 : τ 5 3 = nI rp) (h4 : τ 5 4 = nI sp) (hρ : ∀ j, j < 8 → τ 26 j = ρ j) (hv : RV ρ) (hz : ∀ j, n ≤ j → j < 8 → ρ j = (-1)) (hQ : RB (τ 19) D) (hB : RB (τ 4) Bq) : ∃ υ, f_Pl_settle N 10 26 18 1 5 τ = some (0, υ) ∧ Sx cSt τ υ ∧ (∀ j, j < 8 → υ 12 j = ρ j) ∧ RB (υ 15) D ∧ (∀ w, w < 256 → υ 16 w = τ 20 w) ∧ υ 10 5 = 1 ∧ υ 10 4 = nI (csO rp sp ρ D) ∧ υ 11 3 = nI (nST ρ D) ∧ υ 10 3 = nI (nRU ρ D) ∧ (∀ r, r < 256 → RUL ρ D r → υ 17 (cnt (ob (RUL ρ D)) r) = nI r) ∧ ∃ m, DO ρ D 64 m ∧ ∀ p, p < 64 → υ 13 p = nI (m p) := by
  obtain ⟨υ, a1, a2, a3, a4, a5, a6, a7, a8, a9, a10, m, a11, a12⟩ := settle_y (N := N) (n := n) (rp := rp) (sp := sp) (τ := τ) (D := D) (Bq := Bq) hN hn h1 h3 h4 (fun j hj => by rw [hρ j hj]; exact hv j hj) (fun j h hj => by rw [hρ j hj]; exact hz j h hj) hQ hB
  have cg : ∀ {r}, RUL (τ 26) D r ↔ RUL ρ D r := fun {r} => RUL.cg hρ (fun _ _ => rfl)
  refine ⟨υ, a1, a2, fun j hj => (a3 j hj).trans (hρ j hj), a4, a5, a6, by rw [a7, csO_cg hρ (fun _ _ => rfl)], by rw [a8, nST_cg hρ (fun _ _ => rfl)], by rw [a9, nRU_cg hρ (fun _ _ => rfl)], fun r hr q => ?_, m, fun p hp => ?_, a12⟩
  · rw [← a10 r hr (cg.mpr q), cnt_ext r (fun k _ => ob_cg (P := RUL ρ D) (Q := RUL (τ 26) D) cg.symm)]
  · obtain ⟨k1, k2, k3⟩ := a11 p hp
    refine ⟨k1, k2, fun e d hd => (k3 e d hd).trans ⟨fun ⟨q, a, b, c, f⟩ => ⟨q, a, ?_, ?_, f⟩, fun ⟨q, a, b, c, f⟩ => ⟨q, a, ?_, ?_, f⟩⟩⟩
    · rw [← hρ _ (by omega)]; exact b
    · rw [← hρ _ (by omega)]; exact c
    · rw [hρ _ (by omega)]; exact b
    · rw [hρ _ (by omega)]; exact c
def cHc (k j : Nat) : Bool := cC k j || cSt k j
def cGm (k j : Nat) : Bool := cM k j || cCc k j
theorem fin_y {n t wi le rp sp R c s : Nat} {τ τ1 ω : Hp} {ρ D : Nat → Int32} {day : Int32} (hH : IvH τ n) (hT : IvT τ n t) (hB : IvB τ n) (hL : IvL τ wi le rp sp) (hS : IvS τ) (hO : IvO τ t) (s1 : Sx cHc τ τ1) (s2 : Sx cGm τ1 ω)
    (a12 : ∀ j, j < 8 → τ1 12 j = ρ j) (a15 : RB (τ1 15) D) (a16 : ∀ w, w < 256 → τ1 16 w = WG τ t day w) (a1 : τ1 10 5 = 1) (a2 : τ1 10 4 = nI c) (a3 : τ1 11 3 = nI s) (a4 : τ1 10 3 = nI (nRU ρ D)) (a5 : ∀ r, r < 256 → RUL ρ D r → τ1 17 (cnt (ob (RUL ρ D)) r) = nI r) {m : Nat → Nat} (a6 : DO ρ D 64 m) (a7 : ∀ p, p < 64 → τ1 13 p = nI (m p))
    (b1 : ω 42 19 = 1) (b2 : ω 42 20 = nI c) (b3 : ω 42 21 = nI s) (b4 : ∀ j, j < 8 → ω 44 j = ρ j) (b5 : ∀ w, w < 256 → ω 52 w = D w ∧ ω 53 w = WG τ t day w) (b6 : R01 (ω 57) (RUL ρ D))
    (hR : 1 ≤ R) (hR8 : R ≤ 8) (r1 : ∀ j, j < 8 → ρ j = (-1) ∨ (j < n ∧ ∃ a, a < R ∧ ρ j = nI a)) (r2 : ∀ a, a < R → ∃ j, j < n ∧ ρ j = nI a) : Inv ω := by
  have hn := hH.1
  have sx : Sx (fun k j => cHc k j || cGm k j) τ ω := (s1.mono (fun k j q => ((Bool.or_eq_false_iff).mp q).1)).tr (s2.mono (fun k j q => ((Bool.or_eq_false_iff).mp q).2))
  have e12 : ∀ j, j < 8 → ω 12 j = ρ j := fun j hj => by rw [s2 12 j rfl]; exact a12 j hj
  refine ⟨n, t, wi, le, rp, sp, 1, R, hH.cg sx (fun _ => ⟨rfl, rfl, rfl, rfl⟩), hT.cg sx (fun _ => ⟨rfl, rfl, rfl, rfl, rfl, rfl, rfl, rfl⟩), hB.cg sx (fun _ => ⟨rfl, rfl, rfl, rfl⟩), hL.cg sx ⟨rfl, rfl, rfl, rfl, rfl, rfl, rfl, rfl, rfl, rfl⟩, ?_, hS.cg sx (fun _ => ⟨rfl, rfl, rfl, rfl⟩), hO.cg sx (fun _ => ⟨rfl, rfl, rfl, rfl, rfl, rfl, rfl, rfl, rfl⟩)⟩
  refine ivp_mk (ρ := ρ) (D := D) (m := m) hR ⟨hR8, fun j hj => ⟨(b4 j hj).trans (e12 j hj).symm, ?_⟩, fun a ha => ?_⟩ e12 (fun w hw => (b5 w hw).1) ?_ b1 ?_ b6 (fun r hr q => ?_) a6 (fun p hp => ?_) ?_ (fun w hw => ?_) ?_ ?_
  · rw [e12 j hj]; exact r1 j hj
  · obtain ⟨j, h1, h2⟩ := r2 a ha
    exact ⟨j, h1, by rw [e12 j (by omega)]; exact h2⟩
  · rw [s2 10 5 rfl]; exact a1
  · rw [s2 10 3 rfl]; exact a4
  · rw [s2.row 17 (fun _ => rfl)]; exact a5 r hr q
  · rw [s2 13 p rfl]; exact a7 p hp
  · rw [s2.row 15 (fun _ => rfl)]
    intro p hp
    obtain ⟨x, k1, k2, k3⟩ := a15 p hp
    exact ⟨x, k1, k2, fun d hd => by rw [(b5 _ (by omega)).1]; exact k3 d hd⟩
  · obtain ⟨y, k1, k2⟩ := wS_nat (x := nI w) (day := day) (win := τ 5 0) hT.2.2.2 t (Nat.le_refl _)
    have ht := hT.1
    refine ⟨y, by omega, ?_, ?_⟩
    · rw [s2 16 w rfl, a16 w hw]; exact k2
    · rw [(b5 w hw).2]; exact k2
  · rw [b3, s2 11 3 rfl, a3]
  · rw [b2, s2 10 4 rfl, a2]
theorem MX.cgm {mk mk' ρ : Nat → Int32} (h : ∀ j, j < 8 → mk' j = mk j) : MX mk' ρ ↔ MX mk ρ := by
  unfold MX
  refine ⟨fun ⟨i, j, a, b, c, d, e⟩ => ⟨i, j, a, b, c, d, ?_⟩, fun ⟨i, j, a, b, c, d, e⟩ => ⟨i, j, a, b, c, d, ?_⟩⟩
  · rw [← h i a, ← h j b]; exact e
  · rw [h i a, h j b]; exact e
theorem ISB.cgm {mk mk' : Nat → Int32} {S S' : Prop} {D B : Nat → Int32} {rp sp n : Nat} {f : Nat → Nat} (h : ∀ j, j < 8 → mk' j = mk j) (hS : S' ↔ S) (H : ISB mk' S' D B rp sp n f) : ISB mk S D B rp sp n f := by
  have k : ∀ ρ, FE mk' S' D B ρ ↔ FE mk S D B ρ := fun ρ => by unfold FE; rw [hS, MX.cgm h]
  obtain ⟨a, b, c⟩ := H
  exact ⟨a, (k _).mp b, fun t h1 h2 => c t h1 ((k _).mpr h2)⟩
theorem cHc_tk {τ υ : Hp} (h : Sx cTk τ υ) : Sx cHc τ υ := h.mono (fun k j q => by
  unfold cHc cC at q
  unfold cTk
  simp only [Bool.or_eq_false_iff, Bool.and_eq_false_iff, beq_eq_false_iff_ne] at q ⊢
  omega)
theorem cHc_sk {τ υ : Hp} (h : Sx cSk τ υ) : Sx cHc τ υ := h.mono (fun k j q => by
  unfold cHc cC at q
  unfold cSk
  simp only [Bool.or_eq_false_iff, Bool.and_eq_false_iff, beq_eq_false_iff_ne] at q ⊢
  omega)
theorem cHc_st {τ υ : Hp} (h : Sx cSt τ υ) : Sx cHc τ υ := h.mono (fun k j q => ((Bool.or_eq_false_iff).mp q).2)
theorem cGm_du {τ υ : Hp} (h : Sx cDu τ υ) : Sx cGm τ υ := h.mono (fun k j q => by
  unfold cGm cM at q
  unfold cDu
  simp only [Bool.or_eq_false_iff, Bool.and_eq_false_iff, beq_eq_false_iff_ne] at q ⊢
  omega)
theorem cGm_pm {τ υ : Hp} (h : Sx cPm τ υ) : Sx cGm τ υ := h.mono (fun k j q => by
  unfold cGm cM cCc at q
  unfold cPm
  simp only [Bool.or_eq_false_iff, Bool.and_eq_false_iff, beq_eq_false_iff_ne] at q ⊢
  omega)
theorem ok_plan (N : Nat) (hN : 20000000 ≤ N) : op_plan N Inv := by
  intro v1 τ hI
  have hI0 := hI
  obtain ⟨n, t, wi, le, rp, sp, mk, R, hH, hT, hB, hL, hP, hS, hO⟩ := hI
  have hn := hH.1
  have no : ∀ {r}, (f_WP_plan N 0 τ v1 = some (r, τ)) → (f_Mo_plan N 42 τ v1 = some (r, upR τ 42 (upd (τ 42) 0 0))) → ∃ (r : Int32) (τ1 τ2 : Hp), f_WP_plan N 0 τ v1 = some (r, τ1) ∧ f_Mo_plan N 42 τ1 v1 = some (r, τ2) ∧ Inv τ2 := fun q1 q2 => ⟨_, τ, _, q1, q2, th0 (N := N) hI0⟩
  by_cases hv : ∃ d, d ≤ 99 ∧ v1 = nI d
  · obtain ⟨d, hd, rfl⟩ := hv
    rcases Nat.eq_zero_or_pos n with h0 | h0
    · subst h0
      refine no (r := (-1)) ?_ ?_
      · unfold f_WP_plan
        rw [day_y hd, obd_s, if_neg (by decide)]
        show (if τ 1 3 = 0 then _ else _) = _
        rw [hH.2.1, if_pos (show nI 0 = 0 from rfl)]
      · unfold f_Mo_plan
        rw [mth, mday_y hd, obd_s, if_neg (by decide)]
        show (if τ 42 1 = 0 then _ else _) = _
        rw [hH.2.2.1, if_pos (show nI 0 = 0 from rfl)]
    · obtain ⟨l1, l2, l3, l4, hrp, hsp, l5, l6, l7, l8, l9, l10, l11, l12, l13, l14⟩ := id hL
      obtain ⟨D, eD⟩ : ∃ D, D = ND τ t (nI d) := ⟨_, rfl⟩
      have hDB : ∀ w, w < 256 → D w = 1 → WY n w ∧ ¬ τ 49 w = 1 := fun w hw e => by
        rw [eD] at e
        obtain ⟨k1, k2⟩ := ND_WY hT hB hL hw e
        exact ⟨k1, by rw [k2]; decide⟩
      have hD01 : ∀ w, D w = 0 ∨ D w = 1 := fun w => by rw [eD]; exact ND_01 τ t (nI d) w
      obtain ⟨τa, a1, a2, a3, a4⟩ := take_y (N := N) (day := nI d) (by omega) hT hB
      rw [← eD] at a3
      have sa := cHc_tk a2
      obtain ⟨τb, f, b1, b2, b3, b4⟩ := seekR_y (N := N) (n := n) (rp := rp) (sp := sp) (τ := τa) (D := D) (B := τ 49) (by omega) h0 hn (by rw [a2 1 3 rfl]; exact hH.2.1) (by rw [a2 5 2 rfl]; exact l9) (by rw [a2 5 3 rfl]; exact l11) (by rw [a2 5 4 rfl]; exact l13) hrp hsp a3 (by rw [a2.row 4 (fun _ => rfl)]; exact hB.2.1) hDB
      have sb : Sx cHc τ τb := sa.tr (cHc_sk b2)
      have hv := fr_RV b3.1 hn
      obtain ⟨τ1, c1, c2, c3, c4, c5, c6, c7, c8, c9, c10, m, c11, c12⟩ := settle_r (N := N) (n := n) (rp := rp) (sp := sp) (τ := τb) (D := D) (Bq := τ 49) (ρ := fr n f) (by omega) hn (by rw [sb 1 3 rfl]; exact hH.2.1) (by rw [sb 5 3 rfl]; exact l11) (by rw [sb 5 4 rfl]; exact l13) b4 hv (fun j h _ => fr_out h) (by rw [b2.row 19 (fun _ => rfl)]; exact a3) (by rw [sb.row 4 (fun _ => rfl)]; exact hB.2.1)
      have s1 : Sx cHc τ τ1 := sb.tr (cHc_st c2)
      have eC : f_WP_plan N 0 τ (nI d) = some (nI (csO rp sp (fr n f) D), τ1) := by
        unfold f_WP_plan
        rw [day_y hd, obd_s, if_neg (by decide)]
        show (if τ 1 3 = 0 then _ else obd (f_Nd_take N 18 1 5 6 τ (nI d)) _) = _
        rw [hH.2.1, if_neg (nI_ne0 h0 (by omega)), a1, obd_s]
        show obd (f_Sk_seekRooms N 21 1 5 18 τa) _ = _
        rw [b1, obd_s]
        show obd (f_Pl_settle N 10 26 18 1 5 τb) _ = _
        rw [c1, obd_s]
        show some (τ1 10 4, τ1) = _
        rw [c7]
      obtain ⟨υ0, e0⟩ : ∃ x : Hp, x = upR τ1 42 (upd (τ1 42) 0 0) := ⟨_, rfl⟩
      have s0 : Sx (fun k j => k == 42 && j == 0) τ1 υ0 := by rw [e0]; exact Sx.ud rfl
      obtain ⟨υa, d1, d2, d3⟩ := dues_y (N := N) (d := d) (τ := τ) (υ0 := υ0) (by omega) hn hH.2.2.1 hT hB hL (fun j hj => by
        rcases hj with rfl | rfl | rfl | rfl
        · rw [s0 42 1 rfl, s1 42 1 rfl]
        · rw [s0 42 4 rfl, s1 42 4 rfl]
        · rw [s0 42 10 rfl, s1 42 10 rfl]
        · rw [s0 42 11 rfl, s1 42 11 rfl]) (fun k hk => by
        rcases hk with rfl | rfl | rfl | rfl | rfl | rfl | rfl
        · rw [s0.row 3 (fun _ => rfl), s1.row 3 (fun _ => rfl)]
        · rw [s0.row 4 (fun _ => rfl), s1.row 4 (fun _ => rfl)]
        · rw [s0.row 48 (fun _ => rfl), s1.row 48 (fun _ => rfl)]
        · rw [s0.row 49 (fun _ => rfl), s1.row 49 (fun _ => rfl)]
        · rw [s0.row 45 (fun _ => rfl), s1.row 45 (fun _ => rfl)]
        · rw [s0.row 46 (fun _ => rfl), s1.row 46 (fun _ => rfl)]
        · rw [s0.row 47 (fun _ => rfl), s1.row 47 (fun _ => rfl)])
      rw [← eD] at d3
      have at42 : ∀ j, ¬ j = 0 → (j = 1 ∨ j = 12 ∨ j = 13 ∨ j = 14) → υa 42 j = τ 42 j := fun j h hj => by
        rw [d2 42 j rfl]
        rcases hj with rfl | rfl | rfl | rfl
        · rw [s0 42 1 rfl, s1 42 1 rfl]
        · rw [s0 42 12 rfl, s1 42 12 rfl]
        · rw [s0 42 13 rfl, s1 42 13 rfl]
        · rw [s0 42 14 rfl, s1 42 14 rfl]
      have r49 : υa 49 = τ 49 := by rw [d2.row 49 (fun _ => rfl), s0.row 49 (fun _ => rfl), s1.row 49 (fun _ => rfl)]
      have r43 : υa 43 = τ 43 := by rw [d2.row 43 (fun _ => rfl), s0.row 43 (fun _ => rfl), s1.row 43 (fun _ => rfl)]
      obtain ⟨g, ω, m1, m2, m3, m4, m5, m6, m7, m8, m9⟩ := planM_y (N := N) (n := n) (rp := rp) (sp := sp) (τ := υa) (D := D) (B := τ 49) hN h0 hn (by rw [at42 1 (by decide) (by decide)]; exact hH.2.2.1) (by rw [at42 12 (by decide) (by decide), l10]; exact l9) (by rw [at42 13 (by decide) (by decide)]; exact l12) (by rw [at42 14 (by decide) (by decide)]; exact l14) hrp hsp (fun w hw => ⟨(d3 w hw).1, hD01 w⟩) (fun w hw => ⟨by rw [r49], hB.2.1.d01 hw⟩) hDB
      have fg : fr n f = fr n g := by
        refine b3.uq (ISB.cgm (fun j hj => ?_) ?_ m1)
        · rw [r43, a2 2 j rfl]; exact (hH.2.2.2 j hj).symm
        · rw [at42 12 (by decide) (by decide), l10, a2 5 2 rfl]
      rw [← fg] at m2 m5 m6 m7 m9
      refine ⟨_, τ1, ω, eC, ?_, ?_⟩
      · show f_Mo_plan N 42 τ1 (nI d) = _
        unfold f_Mo_plan
        rw [mth, ← e0, mday_y hd, obd_s, if_neg (by decide), show υ0 42 1 = nI n by rw [s0 42 1 rfl, s1 42 1 rfl]; exact hH.2.2.1, if_neg (nI_ne0 h0 (by omega)), d1, obd_s]
        exact m2
      · have hrb : rb f n ≤ n := rb_le n b3.1
        have s2 : Sx cGm τ1 ω := ((s0.mono (fun k j q => by
          unfold cGm cM at q
          simp only [Bool.or_eq_false_iff, Bool.and_eq_false_iff, beq_eq_false_iff_ne] at q ⊢
          omega)).tr (cGm_du d2)).tr (cGm_pm m3)
        refine fin_y (R := rb f n) (day := nI d) hH hT hB hL hS hO s1 s2 c3 c4 (fun w hw => ?_) c6 c7 c8 c9 c10 c11 c12 m4 m5 m6 m7 (fun w hw => ⟨(m8 w hw).1, (m8 w hw).2.trans (d3 w hw).2⟩) m9 (Nat.lt_of_le_of_lt (Nat.zero_le _) (rb_at (s := f) h0)) (by omega) (fun j hj => ?_) (fun a ha => ?_)
        · rw [c5 w hw, b2 20 w rfl]; exact a4 w hw
        · rcases Nat.lt_or_ge j n with q | q
          · exact Or.inr ⟨q, f j, rb_at q, fr_in q⟩
          · exact Or.inl (fr_out q)
        · obtain ⟨j, h1, h2⟩ := rb_has n b3.1 ha
          exact ⟨j, h1, by rw [fr_in h1, h2]⟩
  · refine no (r := (-1)) ?_ ?_
    · unfold f_WP_plan
      rw [day_n hv, obd_s, if_pos rfl]
    · unfold f_Mo_plan
      rw [mth, mday_n hv, obd_s, if_pos rfl]

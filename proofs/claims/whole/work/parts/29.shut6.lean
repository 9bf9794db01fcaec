theorem cSc_C {τ τ' : Hp} (h : Sx cSc τ τ') : Sx cC τ τ' := h.mono (fun k j q => by
  unfold cC at q
  unfold cSc
  simp only [Bool.or_eq_false_iff, Bool.and_eq_false_iff, beq_eq_false_iff_ne] at q ⊢
  omega)
def cSf (k j : Nat) : Bool := cSd k j || (cSm k j || (k == 62 || (k == 42 && j == 34)))
theorem ok_shut (N : Nat) (hN : 1000000 ≤ N) : op_shut N Inv := by
  intro v1 τ hI
  have hI0 := hI
  obtain ⟨n, t, wi, le, rp, sp, mk, R, hH, hT, hB, hL, hP, hS, hO⟩ := hI
  have hn := hH.1
  have no : ∀ {r}, (f_WP_shut N 0 τ v1 = some (r, τ)) → (f_Mo_shut N 42 τ v1 = some (r, upR τ 42 (upd (τ 42) 0 0))) → ∃ (r : Int32) (τ1 τ2 : Hp), f_WP_shut N 0 τ v1 = some (r, τ1) ∧ f_Mo_shut N 42 τ1 v1 = some (r, τ2) ∧ Inv τ2 := fun q1 q2 => ⟨_, τ, _, q1, q2, th0 (N := N) hI0⟩
  by_cases hv : ∃ a, 0 ≤ a ∧ a ≤ 8 ∧ v1 = nI a
  · obtain ⟨v, -, hv, rfl⟩ := hv
    rcases hP.1 with hmk | hmk
    · subst hmk
      refine no (r := (-1)) ?_ ?_
      · unfold f_WP_shut
        show (if τ 10 5 = 0 then _ else _) = _
        rw [hP.2.2.2.1, if_pos (show nI 0 = 0 from rfl)]
      · unfold f_Mo_shut
        rw [mth, if_neg (nI_pos (by omega)), if_neg (show ¬ (8 : Int32) < nI v from nI_nlt (a := 8) hv (by omega))]
        show (if τ 42 19 = 0 then _ else _) = _
        rw [hP.2.2.2.2.1, if_pos (show nI 0 = 0 from rfl)]
    · subst hmk
      have eC : f_WP_shut N 0 τ (nI v) = obd (f_Sh_seekSet N 30 10 3 τ (nI v)) fun r3 τ4 => some (r3, τ4) := by
        unfold f_WP_shut
        show (if τ 10 5 = 0 then _ else _) = _
        rw [hP.2.2.2.1, if_neg (show ¬ nI 1 = 0 by decide), show f_WP_isBetween N τ (nI v) 0 8 = some (1, τ) from btw_y (b := 0) (c := 8) (Nat.zero_le _) hv (by omega), obd_s, if_neg (by decide)]
      obtain ⟨τ1, h1⟩ := seek_y (N := N) hN hn hB.1 hP (show v < 9 by omega)
      have h1x : Sx cSd τ τ1 := by
        rcases h1 with ⟨_, _, q⟩ | ⟨_, T, _, ⟨_, _, q⟩ | ⟨b, _, _, _, q, _⟩⟩
        · exact q.mono (fun k j q => (Bool.or_eq_false_iff.mp q).1)
        · exact q.mono (fun k j q => (Bool.or_eq_false_iff.mp q).1)
        · exact q
      have w12 : τ1 12 = τ 12 := h1x.row 12 (fun _ => rfl)
      have w57 : τ1 57 = τ 57 := h1x.row 57 (fun _ => rfl)
      have w48 : τ1 48 = τ 48 := h1x.row 48 (fun _ => rfl)
      have w52 : τ1 52 = τ 52 := h1x.row 52 (fun _ => rfl)
      have w16 : τ1 16 = τ 16 := h1x.row 16 (fun _ => rfl)
      have w3 : τ1 3 = τ 3 := h1x.row 3 (fun _ => rfl)
      have hCn : Cn τ1 = Cn τ := by
        funext r
        unfold Cn mustBy By
        rw [w12, w57, w48]
      have hWd : Wd τ1 = Wd τ := by
        funext R x
        have hp : Px τ1 x = Px τ x := by funext r; unfold Px; rw [hCn, w57]
        have hv : vR τ1 = vR τ := by funext P a; unfold vR; rw [w12]
        unfold Wd
        rw [hp, hv]
      have hOk : OkS τ1 = OkS τ := by funext R v x; unfold OkS; rw [hWd]
      have hBst : Bst τ1 = Bst τ := by funext R v c T m b; unfold Bst; rw [hOk]
      have hTTe : TT τ1 = TT τ := by
        have htl : tl τ1 = tl τ := funext fun r => gB_cg w12 w52 w16 r
        funext T; unfold TT; rw [hCn, htl]
      have hP1 : IvP τ1 n 1 R := hP.cg h1x (fun _ => ⟨rfl, rfl, rfl, rfl, rfl, rfl, rfl, rfl, rfl, rfl, rfl, rfl, rfl, rfl⟩)
      have hH1 : IvH τ1 n := hH.cg h1x (fun _ => ⟨rfl, rfl, rfl, rfl⟩)
      obtain ⟨υ, s1, s2⟩ := free_y (N := N) (v := v) (τ := τ1) (υ0 := upR τ1 42 (upd (τ1 42) 0 0)) (by omega) hn (by rw [w3, w48]; exact hB.1) hP1 (Sx.ud rfl)
      have eM : f_Mo_shut N 42 τ1 (nI v) = f_Mo_shut_L31 N 42 N (upR τ1 42 (upd (τ1 42) 0 0)) (nI v) 0 0 0 := by
        unfold f_Mo_shut
        rw [mth, if_neg (nI_pos (by omega)), if_neg (show ¬ (8 : Int32) < nI v from nI_nlt (a := 8) hv (by omega))]
        show (if τ1 42 19 = 0 then _ else _) = _
        rw [hP1.2.2.2.2.1, if_neg (show ¬ nI 1 = 0 by decide)]
      rw [hCn] at s2
      rcases h1 with ⟨a1, a2, a3⟩ | ⟨a1, T, hTT, h1⟩
      · rcases s2 with ⟨b1, b2⟩ | ⟨b1, _⟩
        · exact ⟨(-2), τ1, υ, eC.trans (by rw [a2]; rfl), eM.trans (by rw [b2]), (hI0.sc (cA_C (cSc_C a3))).sc (cA_M (cSm_M s1))⟩
        · omega
      · rcases s2 with ⟨b1, _⟩ | ⟨b1, b2, b3⟩
        · omega
        · obtain ⟨c, ec⟩ : ∃ c, c = cnt (ob (Cn τ)) 256 := ⟨_, rfl⟩
          rw [← ec] at a1 b3 h1
          have hl := l168_y (N := N) (v := v) (τ := τ1) (υ0 := υ) (T := T) (c := c) hN hn hH1.2.2.1 hP1 s1 b2 (by rw [hTTe]; exact hTT) (by rw [hCn]; exact ec) a1 (by omega)
          rw [hOk, hBst] at hl
          rcases h1 with ⟨c1, c2, c3⟩ | ⟨b, d1, d2, d3, d4, d5, d6⟩
          · rcases hl with ⟨e1, υ', e2, e3⟩ | ⟨b', e1, e2, _⟩
            · exact ⟨(-1), τ1, υ', eC.trans (by rw [c2]; rfl), eM.trans (by rw [b3, e2]), (hI0.sc (cA_C (cSc_C c3))).sc (cA_M (cSm_M e3))⟩
            · exact absurd e2.1 (c1 b')
          · rcases hl with ⟨e1, _⟩ | ⟨b', e1, e2, υ', e3, e4, e5, e6⟩
            · exact absurd d2.1 (e1 b d1)
            · have hbb : b' = b := e2.uq d2 e1 d1
              subst hbb
              have h12 : 2 ^ c ≤ 4096 := Nat.pow_le_pow_right (n := 2) (j := 12) (by omega) a1
              obtain ⟨ω, f1, f2, f3, f4⟩ := l292_y (N := N) (v4 := nI (ss b' T c)) (by omega) a1 (show b' < 2 ^ 20 by omega) e5
              refine ⟨nI (ss b' T c), τ1, ω, eC.trans (by rw [d3]; rfl), eM.trans (by rw [b3, e6, f1]), ?_⟩
              have hx : Sx cSf τ ω := ((h1x.mono (fun k j q => (Bool.or_eq_false_iff.mp q).1)).tr (e3.mono (fun k j q => (Bool.or_eq_false_iff.mp (Bool.or_eq_false_iff.mp q).2).1))).tr (f2.mono (fun k j q => (Bool.or_eq_false_iff.mp (Bool.or_eq_false_iff.mp q).2).2))
              refine ⟨n, t, wi, le, rp, sp, 1, R, hH.cg hx (fun _ => ⟨rfl, rfl, rfl, rfl⟩), hT.cg hx (fun _ => ⟨rfl, rfl, rfl, rfl, rfl, rfl, rfl, rfl⟩), hB.cg hx (fun _ => ⟨rfl, rfl, rfl, rfl⟩), hL.cg hx ⟨rfl, rfl, rfl, rfl, rfl, rfl, rfl, rfl, rfl, rfl⟩, hP.cg hx (fun _ => ⟨rfl, rfl, rfl, rfl, rfl, rfl, rfl, rfl, rfl, rfl, rfl, rfl, rfl, rfl⟩), ⟨bc b' c, ?_, ?_, f3, fun j hj => ?_⟩, hO.cg hx (fun _ => ⟨rfl, rfl, rfl, rfl, rfl, rfl, rfl, rfl, rfl⟩)⟩
              · have : bc b' c ≤ c := cn_le _ c
                omega
              · rw [f2 30 7 rfl, e3 30 7 rfl]; exact d5
              · obtain ⟨i, i1, i2, i3⟩ := cn_kth (P := fun k => b'.testBit k = true) hj
                obtain ⟨r, r1, r2, r3⟩ := cn_kth (P := Cn τ) (j := i) (n := 256) (by omega)
                have g1 := d6 r r1 r2 (by rw [r3]; exact i2)
                have g2 := f4 i i1 i2
                have g3 := (e4 r r1 (by rw [hCn]; exact r2)).2.1
                rw [hCn, r3] at g3
                rw [r3] at g1
                have i4 : bc b' i = j := i3
                rw [i4] at g1 g2
                rw [f2 38 j rfl, e3 38 j rfl, g1, g2, g3, w57]
  · refine no (r := (-1)) ?_ ?_
    · unfold f_WP_shut
      show (if τ 10 5 = 0 then _ else _) = _
      by_cases q : τ 10 5 = 0
      · rw [if_pos q]
      · rw [if_neg q, show f_WP_isBetween N τ v1 0 8 = some (0, τ) from btw_n (b := 0) (c := 8) (by omega) (by omega) hv, obd_s, if_pos rfl]
    · unfold f_Mo_shut
      rw [mth]
      by_cases q : v1 < 0
      · rw [if_pos q]
      · rw [if_neg q]
        obtain ⟨j, hj, rfl⟩ := nI_of q
        rw [if_pos (show (8 : Int32) < nI j from nI_lt (a := 8) (Nat.lt_of_not_le fun q => hv ⟨j, Nat.zero_le _, q, rfl⟩) hj)]

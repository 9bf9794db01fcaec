/-- rules, ways let, strays and barred ways of rooms and needs -/
def RUL (ρ D : Nat → Int32) (r : Nat) : Prop := r / 32 ≠ r / 4 % 8 ∧ ∃ w, w < 256 ∧ ρ (w / 32) = nI (r / 32) ∧ ρ (w / 4 % 8) = nI (r / 4 % 8) ∧ w % 4 = r % 4 ∧ D w = 1
def LET (ρ D : Nat → Int32) (w : Nat) : Prop := w / 32 ≠ w / 4 % 8 ∧ ∃ x y, x < 8 ∧ y < 8 ∧ ρ (w / 32) = nI x ∧ ρ (w / 4 % 8) = nI y ∧ (x = y ∨ RUL ρ D (32 * x + 4 * y + w % 4))
def STR (ρ D : Nat → Int32) (w : Nat) : Prop := LET ρ D w ∧ ¬ D w = 1
def BRD (ρ D B : Nat → Int32) : Prop := ∃ w, w < 256 ∧ LET ρ D w ∧ B w = 1
noncomputable def nRU (ρ D : Nat → Int32) : Nat := cnt (ob (RUL ρ D)) 256
noncomputable def nST (ρ D : Nat → Int32) : Nat := cnt (ob (STR ρ D)) 256
def EXT (ρ ρ' : Nat → Int32) : Prop := ∀ j, j < 8 → ρ j = (-1) ∨ ρ' j = ρ j
theorem EXT.at {ρ ρ' : Nat → Int32} (h : EXT ρ ρ') {j x : Nat} (hj : j < 8) (hx : x < 8) (e : ρ j = nI x) : ρ' j = nI x := by
  rcases h j hj with q | q
  · exact absurd (q.symm.trans e) (nm1_ne' (by omega))
  · rw [q]; exact e
theorem RUL.mono {ρ ρ' D : Nat → Int32} (h : EXT ρ ρ') {r : Nat} (hr : r < 256) (q : RUL ρ D r) : RUL ρ' D r := by
  obtain ⟨h1, w, h2, h3, h4, h5⟩ := q
  exact ⟨h1, w, h2, h.at (by omega) (by omega) h3, h.at (by omega) (by omega) h4, h5⟩
theorem LET.mono {ρ ρ' D : Nat → Int32} (h : EXT ρ ρ') {w : Nat} (hw : w < 256) (q : LET ρ D w) : LET ρ' D w := by
  obtain ⟨h1, x, y, h2, h3, h4, h5, h6⟩ := q
  exact ⟨h1, x, y, h2, h3, h.at (by omega) h2 h4, h.at (by omega) h3 h5, h6.imp id (fun e => e.mono h (by omega))⟩
theorem BRD.mono {ρ ρ' D B : Nat → Int32} (h : EXT ρ ρ') (q : BRD ρ D B) : BRD ρ' D B := by
  obtain ⟨w, h1, h2, h3⟩ := q
  exact ⟨w, h1, h2.mono h h1, h3⟩
theorem nRU_mono {ρ ρ' D : Nat → Int32} (h : EXT ρ ρ') : nRU ρ D ≤ nRU ρ' D := cnt_le_of 256 (fun r hr q => ob_t ((ob_p q).mono h hr))
theorem nST_mono {ρ ρ' D : Nat → Int32} (h : EXT ρ ρ') : nST ρ D ≤ nST ρ' D := cnt_le_of 256 (fun r hr q => ob_t ⟨(ob_p q).1.mono h hr, (ob_p q).2⟩)
theorem nRU_le (ρ D : Nat → Int32) : nRU ρ D ≤ 256 := cn_le _ 256
theorem nST_le (ρ D : Nat → Int32) : nST ρ D ≤ 256 := cn_le _ 256
noncomputable def csO (rp sp : Nat) (ρ D : Nat → Int32) : Nat := nRU ρ D * rp + nST ρ D * sp
theorem csO_mono {rp sp : Nat} {ρ ρ' D : Nat → Int32} (h : EXT ρ ρ') : csO rp sp ρ D ≤ csO rp sp ρ' D := Nat.add_le_add (Nat.mul_le_mul_right _ (nRU_mono h)) (Nat.mul_le_mul_right _ (nST_mono h))
theorem csO_le {rp sp : Nat} {ρ D : Nat → Int32} (h1 : rp ≤ 99) (h2 : sp ≤ 99) : csO rp sp ρ D ≤ 50688 := Nat.le_trans (Nat.add_le_add (Nat.mul_le_mul (nRU_le ρ D) h1) (Nat.mul_le_mul (nST_le ρ D) h2)) (by decide)
theorem RUL.cg {ρ ρ' D D' : Nat → Int32} (h : ∀ j, j < 8 → ρ' j = ρ j) (hD : ∀ w, w < 256 → D' w = D w) {r : Nat} : RUL ρ' D' r ↔ RUL ρ D r := by
  unfold RUL
  refine ⟨fun ⟨a, w, b, c, d, e, f⟩ => ⟨a, w, b, ?_, ?_, e, ?_⟩, fun ⟨a, w, b, c, d, e, f⟩ => ⟨a, w, b, ?_, ?_, e, ?_⟩⟩
  · rw [← h _ (by omega)]; exact c
  · rw [← h _ (by omega)]; exact d
  · rw [← hD _ b]; exact f
  · rw [h _ (by omega)]; exact c
  · rw [h _ (by omega)]; exact d
  · rw [hD _ b]; exact f
theorem LET.cg {ρ ρ' D D' : Nat → Int32} (h : ∀ j, j < 8 → ρ' j = ρ j) (hD : ∀ w, w < 256 → D' w = D w) {w : Nat} (hw : w < 256) : LET ρ' D' w ↔ LET ρ D w := by
  unfold LET
  refine ⟨fun ⟨a, x, y, b, c, d, e, f⟩ => ⟨a, x, y, b, c, ?_, ?_, ?_⟩, fun ⟨a, x, y, b, c, d, e, f⟩ => ⟨a, x, y, b, c, ?_, ?_, ?_⟩⟩
  · rw [← h _ (by omega)]; exact d
  · rw [← h _ (by omega)]; exact e
  · rw [← RUL.cg h hD]; exact f
  · rw [h _ (by omega)]; exact d
  · rw [h _ (by omega)]; exact e
  · rw [RUL.cg h hD]; exact f
theorem ob_cg {P Q : Nat → Prop} {k : Nat} (h : P k ↔ Q k) : ob P k = ob Q k := by
  by_cases q : P k
  · rw [ob_t q, ob_t (h.mp q)]
  · rw [ob_f q, ob_f (fun e => q (h.mpr e))]
theorem nRU_cg {ρ ρ' D D' : Nat → Int32} (h : ∀ j, j < 8 → ρ' j = ρ j) (hD : ∀ w, w < 256 → D' w = D w) : nRU ρ' D' = nRU ρ D := cnt_ext 256 (fun r _ => ob_cg (RUL.cg h hD))
theorem nST_cg {ρ ρ' D D' : Nat → Int32} (h : ∀ j, j < 8 → ρ' j = ρ j) (hD : ∀ w, w < 256 → D' w = D w) : nST ρ' D' = nST ρ D := cnt_ext 256 (fun r hr => ob_cg (by unfold STR; rw [LET.cg h hD hr, hD r hr]))
theorem csO_cg {rp sp : Nat} {ρ ρ' D D' : Nat → Int32} (h : ∀ j, j < 8 → ρ' j = ρ j) (hD : ∀ w, w < 256 → D' w = D w) : csO rp sp ρ' D' = csO rp sp ρ D := by unfold csO; rw [nRU_cg h hD, nST_cg h hD]
theorem BRD.cg {ρ ρ' D D' B B' : Nat → Int32} (h : ∀ j, j < 8 → ρ' j = ρ j) (hD : ∀ w, w < 256 → D' w = D w) (hB : ∀ w, w < 256 → B' w = B w) : BRD ρ' D' B' ↔ BRD ρ D B := by
  unfold BRD
  refine ⟨fun ⟨w, a, b, c⟩ => ⟨w, a, ?_, ?_⟩, fun ⟨w, a, b, c⟩ => ⟨w, a, ?_, ?_⟩⟩
  · rw [← LET.cg h hD a]; exact b
  · rw [← hB w a]; exact c
  · rw [LET.cg h hD a]; exact b
  · rw [hB w a]; exact c
/-- masks of four doors -/
def pc (m : Nat) : Nat := cnt (fun d => m.testBit d) 4
def pc2 (a b : Nat) : Nat := cnt (fun d => a.testBit d && !b.testBit d) 4
def bcI (v : Int32) : Int32 := match f_Jb_bitCount 0 (fun _ _ => 0) v with
  | some (r, _) => r
  | none => 0
theorem bc_eq (N : Nat) (τ : Hp) (v : Int32) : f_Jb_bitCount N τ v = some (bcI v, τ) := rfl
theorem bc16 : ∀ a, a < 16 → ∀ b, b < 16 → bcI (nI a &&& (nI b ^^^ (-1))) = nI (pc2 a b) := by decide +kernel
theorem bc1 : ∀ a, a < 16 → bcI (nI a) = nI (pc a) := by decide +kernel
theorem pc_or : ∀ a, a < 16 → ∀ b, b < 16 → pc (b ||| a) = pc b + pc2 a b := by decide +kernel
theorem pc2_15 : ∀ a, a < 16 → pc2 a 15 = 0 ∧ 15 ||| a = 15 ∧ pc2 0 a = 0 := by decide +kernel
theorem and16 : ∀ a, a < 16 → ∀ b, b < 16 → ((nI a &&& nI b = 0 ↔ a &&& b = 0) ∧ (a &&& b = 0 ↔ ∀ d, d < 4 → ¬ (a.testBit d = true ∧ b.testBit d = true))) := by decide +kernel
theorem dg : ∀ p, p < 64 → (p % 9 = 0 ↔ p / 8 = p % 8) := by decide +kernel
theorem sN_cg {g h : Nat → Nat} : ∀ n, (∀ k, k < n → g k = h k) → sN g n = sN h n
  | 0, _ => rfl
  | n + 1, q => by rw [sN, sN, sN_cg n (fun k hk => q k (by omega)), q n (by omega)]
theorem sN_upd {g : Nat → Nat} {p e : Nat} : ∀ n, p < n → sN (fun k => if k = p then g p + e else g k) n = sN g n + e
  | n + 1, q => by
    rw [sN, sN]
    by_cases q2 : n = p
    · rw [if_pos q2, sN_cg (h := g) n (fun k hk => if_neg (by omega)), q2]; omega
    · rw [if_neg q2, sN_upd n (by omega)]; omega
theorem cnt_add (p : Nat → Bool) (m : Nat) : ∀ k, cnt p (m + k) = cnt p m + cnt (fun d => p (m + d)) k
  | 0 => rfl
  | k + 1 => by rw [← Nat.add_assoc, cnt, cnt, cnt_add p m k]; omega
theorem cnt_4 (p : Nat → Bool) : ∀ n, cnt p (4 * n) = sN (fun q => cnt (fun d => p (4 * q + d)) 4) n
  | 0 => rfl
  | n + 1 => by rw [Nat.mul_succ, cnt_add, sN, cnt_4 p n]
def PC (m : Nat → Nat) : Nat := sN (fun p => if p % 9 = 0 then 0 else pc (m p)) 64
def DO (ρ D : Nat → Int32) (B : Nat) (m : Nat → Nat) : Prop := ∀ p, p < 64 → m p < 16 ∧ (p % 9 = 0 → m p = 15) ∧ (p % 9 ≠ 0 → ∀ d, d < 4 → ((m p).testBit d = true ↔ ∃ q, q < B ∧ ρ (q / 8) = nI (p / 8) ∧ ρ (q % 8) = nI (p % 8) ∧ D (4 * q + d) = 1))
theorem DO.ext {ρ D : Nat → Int32} {B B' : Nat} {m : Nat → Nat} (hB : B ≤ B') (h : ∀ q, B ≤ q → q < B' → ∀ x y d, d < 4 → x < 8 → y < 8 → ¬ (ρ (q / 8) = nI x ∧ ρ (q % 8) = nI y ∧ D (4 * q + d) = 1)) (H : DO ρ D B m) : DO ρ D B' m := fun p hp => by
  obtain ⟨h1, h2, h3⟩ := H p hp
  refine ⟨h1, h2, fun hd d hd4 => (h3 hd d hd4).trans ⟨fun ⟨q, a, b⟩ => ⟨q, by omega, b⟩, fun ⟨q, a, b⟩ => ⟨q, ?_, b⟩⟩⟩
  rcases Nat.lt_or_ge q B with e | e
  · exact e
  · exact absurd b (h q e a (p / 8) (p % 8) d hd4 (by omega) (by omega))
theorem tb_or (a b d : Nat) : (a ||| b).testBit d = true ↔ (a.testBit d = true ∨ b.testBit d = true) := by rw [Nat.testBit_or, Bool.or_eq_true]
theorem DO.step {ρ D : Nat → Int32} {B ν x y : Nat} {m : Nat → Nat} (hx : x < 8) (hy : y < 8) (e1 : ρ (B / 8) = nI x) (e2 : ρ (B % 8) = nI y) (hν : ν < 16) (hb : ∀ d, d < 4 → (ν.testBit d = true ↔ D (4 * B + d) = 1)) (H : DO ρ D B m) : DO ρ D (B + 1) (fun p => if p = 8 * x + y then m p ||| ν else m p) ∧ PC (fun p => if p = 8 * x + y then m p ||| ν else m p) = PC m + pc2 ν (m (8 * x + y)) := by
  have hxy : 8 * x + y < 64 := by omega
  constructor
  · intro p hp
    obtain ⟨h1, h2, h3⟩ := H p hp
    by_cases q : p = 8 * x + y
    · show (if p = 8 * x + y then m p ||| ν else m p) < 16 ∧ (_ → (if p = 8 * x + y then m p ||| ν else m p) = 15) ∧ (_ → ∀ d, d < 4 → ((if p = 8 * x + y then m p ||| ν else m p).testBit d = true ↔ _))
      rw [if_pos q]
      refine ⟨Nat.or_lt_two_pow (n := 4) h1 hν, fun e => by rw [h2 e]; exact (pc2_15 ν hν).2.1, fun e d hd => ?_⟩
      rw [tb_or, h3 e d hd, hb d hd]
      have ex : p / 8 = x := by omega
      have ey : p % 8 = y := by omega
      rw [ex, ey]
      constructor
      · rintro (⟨q, a, b⟩ | a)
        · exact ⟨q, by omega, b⟩
        · exact ⟨B, by omega, e1, e2, a⟩
      · rintro ⟨q, a, b, c, f⟩
        rcases Nat.lt_or_ge q B with g | g
        · exact Or.inl ⟨q, g, b, c, f⟩
        · have : q = B := by omega
          subst this; exact Or.inr f
    · show (if p = 8 * x + y then m p ||| ν else m p) < 16 ∧ (_ → (if p = 8 * x + y then m p ||| ν else m p) = 15) ∧ (_ → ∀ d, d < 4 → ((if p = 8 * x + y then m p ||| ν else m p).testBit d = true ↔ _))
      rw [if_neg q]
      refine ⟨h1, h2, fun e d hd => (h3 e d hd).trans ⟨fun ⟨q, a, b⟩ => ⟨q, by omega, b⟩, fun ⟨q', a, b, c, f⟩ => ⟨q', ?_, b, c, f⟩⟩⟩
      rcases Nat.lt_or_ge q' B with g | g
      · exact g
      · have : q' = B := by omega
        subst this
        have i1 := (nI_eq (by omega) (by omega)).mp (e1.symm.trans b)
        have i2 := (nI_eq (by omega) (by omega)).mp (e2.symm.trans c)
        omega
  · obtain ⟨h1, h2, h3⟩ := H (8 * x + y) hxy
    unfold PC
    rw [← sN_upd (g := fun p => if p % 9 = 0 then 0 else pc (m p)) (p := 8 * x + y) (e := pc2 ν (m (8 * x + y))) 64 hxy]
    refine sN_cg 64 (fun p hp => ?_)
    dsimp only
    by_cases q : p = 8 * x + y
    · rw [if_pos q, if_pos q]
      subst q
      by_cases q2 : (8 * x + y) % 9 = 0
      · rw [if_pos q2, if_pos q2, h2 q2, (pc2_15 ν hν).1]
      · rw [if_neg q2, if_neg q2, pc_or ν hν _ h1]
    · rw [if_neg q, if_neg q]
theorem DO.zero {ρ D : Nat → Int32} : DO ρ D 0 (fun p => if p % 9 = 0 then 15 else 0) ∧ PC (fun p => if p % 9 = 0 then 15 else 0) = 0 := by
  constructor
  · intro p hp
    show (if p % 9 = 0 then 15 else 0) < 16 ∧ (_ → (if p % 9 = 0 then 15 else 0) = 15) ∧ (_ → ∀ d, d < 4 → ((if p % 9 = 0 then 15 else 0).testBit d = true ↔ _))
    by_cases q : p % 9 = 0
    · rw [if_pos q]; exact ⟨by omega, fun _ => rfl, fun e => absurd q e⟩
    · rw [if_neg q]
      refine ⟨by omega, fun e => absurd e q, fun _ d _ => ⟨fun e => ?_, fun ⟨q, a, _⟩ => absurd a (Nat.not_lt_zero q)⟩⟩
      rw [Nat.zero_testBit] at e; cases e
  · decide +kernel
theorem DO.rul {ρ D : Nat → Int32} {m : Nat → Nat} (H : DO ρ D 64 m) {r : Nat} (hr : r < 256) : RUL ρ D r ↔ ((r / 4) % 9 ≠ 0 ∧ (m (r / 4)).testBit (r % 4) = true) := by
  obtain ⟨h1, h2, h3⟩ := H (r / 4) (by omega)
  have hd := dg (r / 4) (by omega)
  unfold RUL
  constructor
  · rintro ⟨a, w, b, c, d, e, f⟩
    have hne : (r / 4) % 9 ≠ 0 := fun e => by have := hd.mp e; omega
    refine ⟨hne, (h3 hne _ (by omega)).mpr ⟨w / 4, by omega, ?_, d, ?_⟩⟩
    · rw [show w / 4 / 8 = w / 32 by omega, show r / 4 / 8 = r / 32 by omega]; exact c
    · rw [← e, show 4 * (w / 4) + w % 4 = w by omega]; exact f
  · rintro ⟨a, b⟩
    obtain ⟨q, c, d, e, f⟩ := (h3 a _ (by omega)).mp b
    refine ⟨fun g => a (hd.mpr (by omega)), 4 * q + r % 4, by omega, ?_, ?_, by omega, f⟩
    · rw [show (4 * q + r % 4) / 32 = q / 8 by omega, show r / 32 = r / 4 / 8 by omega]; exact d
    · rw [show (4 * q + r % 4) / 4 % 8 = q % 8 by omega]; exact e
theorem PC_nRU {ρ D : Nat → Int32} {m : Nat → Nat} (H : DO ρ D 64 m) : PC m = nRU ρ D := by
  unfold nRU
  rw [show (256 : Nat) = 4 * 64 from rfl, cnt_4]
  refine (sN_cg 64 (fun p hp => ?_)).symm
  by_cases q : p % 9 = 0
  · rw [if_pos q]
    refine (cnt_zero 4).mpr (fun d hd => ob_f (fun e => ?_))
    have := (H.rul (by omega)).mp e
    rw [show (4 * p + d) / 4 = p by omega] at this
    exact this.1 q
  · rw [if_neg q]
    refine cnt_ext 4 (fun d hd => ?_)
    have := H.rul (r := 4 * p + d) (by omega)
    rw [show (4 * p + d) / 4 = p by omega, show (4 * p + d) % 4 = d by omega] at this
    by_cases q2 : (m p).testBit d = true
    · rw [ob_t (this.mpr ⟨q, q2⟩), q2]
    · rw [ob_f (fun e => q2 (this.mp e).2)]
      exact (Bool.eq_false_iff.mpr q2).symm
def opn (ρ : Nat → Int32) (m : Nat → Nat) (q : Nat) : Nat := if ρ (q / 8) = (-1) ∨ ρ (q % 8) = (-1) ∨ q / 8 = q % 8 then 0 else m (8 * (ρ (q / 8)).toNatClampNeg + (ρ (q % 8)).toNatClampNeg)
theorem opn_no {ρ : Nat → Int32} {m : Nat → Nat} {q : Nat} (h : ρ (q / 8) = (-1) ∨ ρ (q % 8) = (-1) ∨ q / 8 = q % 8) : opn ρ m q = 0 := if_pos h
theorem opn_at {ρ : Nat → Int32} {m : Nat → Nat} {q x y : Nat} (hx : x < 8) (hy : y < 8) (e1 : ρ (q / 8) = nI x) (e2 : ρ (q % 8) = nI y) (h : ¬ q / 8 = q % 8) : opn ρ m q = m (8 * x + y) := by
  unfold opn
  rw [if_neg (fun e => e.elim (fun e => nm1_ne (a := x) (by omega) (e1.symm.trans e)) (fun e => e.elim (fun e => nm1_ne (a := y) (by omega) (e2.symm.trans e)) h)), e1, e2, nI_clamp (by omega), nI_clamp (by omega)]
theorem opn_let {ρ D : Nat → Int32} {m : Nat → Nat} {q d : Nat} (hv : RV ρ) (H : DO ρ D 64 m) (hq : q < 64) (hd : d < 4) : opn ρ m q < 16 ∧ ((opn ρ m q).testBit d = true ↔ LET ρ D (4 * q + d)) := by
  have w1 : (4 * q + d) / 32 = q / 8 := by omega
  have w2 : (4 * q + d) / 4 % 8 = q % 8 := by omega
  have w3 : (4 * q + d) % 4 = d := by omega
  unfold LET
  rw [w1, w2, w3]
  by_cases h : ρ (q / 8) = (-1) ∨ ρ (q % 8) = (-1) ∨ q / 8 = q % 8
  · rw [opn_no h]
    refine ⟨by omega, fun e => ?_, fun ⟨a, x, y, b, c, d, e, _⟩ => ?_⟩
    · rw [Nat.zero_testBit] at e; cases e
    · rcases h with h | h | h
      · exact absurd (h.symm.trans d) (nm1_ne' (by omega))
      · exact absurd (h.symm.trans e) (nm1_ne' (by omega))
      · exact absurd h a
  · obtain ⟨x, hx, e1⟩ := (hv (q / 8) (by omega)).resolve_left (fun e => h (Or.inl e))
    obtain ⟨y, hy, e2⟩ := (hv (q % 8) (by omega)).resolve_left (fun e => h (Or.inr (Or.inl e)))
    have h3 : ¬ q / 8 = q % 8 := fun e => h (Or.inr (Or.inr e))
    rw [opn_at hx hy e1 e2 h3]
    obtain ⟨k1, k2, k3⟩ := H (8 * x + y) (by omega)
    refine ⟨k1, ?_⟩
    have hr := H.rul (r := 32 * x + 4 * y + d) (by omega)
    rw [show (32 * x + 4 * y + d) / 4 = 8 * x + y by omega, show (32 * x + 4 * y + d) % 4 = d by omega] at hr
    have hd9 := dg (8 * x + y) (by omega)
    constructor
    · intro e
      refine ⟨h3, x, y, hx, hy, e1, e2, ?_⟩
      by_cases q9 : (8 * x + y) % 9 = 0
      · exact Or.inl (by have := hd9.mp q9; omega)
      · exact Or.inr (hr.mpr ⟨q9, e⟩)
    · rintro ⟨_, x', y', hx', hy', f1, f2, f3⟩
      have i1 := (nI_eq (by omega) (by omega)).mp (e1.symm.trans f1)
      have i2 := (nI_eq (by omega) (by omega)).mp (e2.symm.trans f2)
      subst i1; subst i2
      rcases f3 with f3 | f3
      · rw [k2 (hd9.mpr (by omega))]
        exact (by decide : ∀ d, d < 4 → (15 : Nat).testBit d = true) d hd
      · exact (hr.mp f3).2
theorem nST_sN {ρ D : Nat → Int32} {m ν : Nat → Nat} (hv : RV ρ) (H : DO ρ D 64 m) (hν : ∀ q, q < 64 → ∀ d, d < 4 → ((ν q).testBit d = true ↔ D (4 * q + d) = 1)) : sN (fun q => pc2 (opn ρ m q) (ν q)) 64 = nST ρ D := by
  unfold nST
  rw [show (256 : Nat) = 4 * 64 from rfl, cnt_4]
  refine sN_cg 64 (fun q hq => cnt_ext 4 (fun d hd => ?_))
  have h1 := (opn_let hv H hq hd).2
  have h2 := hν q hq d hd
  by_cases q1 : STR ρ D (4 * q + d)
  · rw [ob_t q1, h1.mpr q1.1, show (ν q).testBit d = false from Bool.eq_false_iff.mpr (fun e => q1.2 (h2.mp e))]; rfl
  · rw [ob_f q1]
    by_cases q2 : (opn ρ m q).testBit d = true
    · rw [q2, h2.mpr (Classical.byContradiction fun e => q1 ⟨h1.mp q2, e⟩)]; rfl
    · rw [Bool.eq_false_iff.mpr q2]; rfl
theorem BRD_ex {ρ D B : Nat → Int32} {m β : Nat → Nat} (hv : RV ρ) (H : DO ρ D 64 m) (hβ : ∀ q, q < 64 → β q < 16 ∧ ∀ d, d < 4 → ((β q).testBit d = true ↔ B (4 * q + d) = 1)) : BRD ρ D B ↔ ∃ q, q < 64 ∧ ¬ opn ρ m q &&& β q = 0 := by
  constructor
  · rintro ⟨w, a, b, c⟩
    refine ⟨w / 4, by omega, fun e => ?_⟩
    have h1 := opn_let (q := w / 4) (d := w % 4) hv H (by omega) (by omega)
    rw [show 4 * (w / 4) + w % 4 = w by omega] at h1
    have h2 := hβ (w / 4) (by omega)
    have h3 := h2.2 (w % 4) (by omega)
    rw [show 4 * (w / 4) + w % 4 = w by omega] at h3
    exact (((and16 _ h1.1 _ h2.1).2.mp e) (w % 4) (by omega)) ⟨h1.2.mpr b, h3.mpr c⟩
  · rintro ⟨q, hq, h⟩
    have h1 := fun d hd => opn_let (q := q) (d := d) hv H hq hd
    have h2 := hβ q hq
    obtain ⟨d, hd⟩ : ∃ d, ¬ (d < 4 → ¬ ((opn ρ m q).testBit d = true ∧ (β q).testBit d = true)) := Classical.not_forall.mp (fun e => h ((and16 _ (h1 0 (by omega)).1 _ h2.1).2.mpr e))
    have hd4 : d < 4 := Nat.lt_of_not_le (fun e => hd (fun e2 => by omega))
    have hb : (opn ρ m q).testBit d = true ∧ (β q).testBit d = true := Classical.byContradiction (fun e => hd (fun _ => e))
    exact ⟨4 * q + d, by omega, (h1 d hd4).2.mp hb.1, (h2.2 d hd4).mp hb.2⟩

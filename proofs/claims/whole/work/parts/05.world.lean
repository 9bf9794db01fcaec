abbrev Hp : Type := Nat → Nat → Int32
abbrev GT : Type := va_G × (Nat → Nat) × ClassId × ClassId × Nat
def aG (G : GT) (k : Nat) : Nat := G.2.1 k
def zG (G : GT) : Nat := G.2.2.2.2
def upR (τ : Hp) (k : Nat) (r : Nat → Int32) : Hp := fun j => if j = k then r else τ j
theorem upR_s (τ : Hp) (k : Nat) (r : Nat → Int32) : upR τ k r k = r := if_pos rfl
theorem upR_n {τ : Hp} {k j : Nat} {r : Nat → Int32} (h : j ≠ k) : upR τ k r j = τ j := if_neg h
def entL (G : GT) : List ((Nat → Int32) → va_E) := [fun r => .inr (10, [.ref (aG G 1), .ref (aG G 5), .ref (aG G 6), .ref (aG G 10), .ref (aG G 18), .ref (aG G 21), .ref (aG G 27), .ref (aG G 30), .ref (aG G 39)]), fun r => .inr (4, [.ref (aG G 2), .ref (aG G 3), .ref (aG G 4), .int (r 3)]), fun r => .inl (G.2.2.1, 8, .inl r), fun r => .inl (G.2.2.1, 64, .inl r), fun r => .inl (G.2.2.1, 64, .inl r), fun r => .inr (1, [.int (r 0), .int (r 1), .int (r 2), .int (r 3), .int (r 4)]), fun r => .inr (0, [.ref (aG G 7), .ref (aG G 8), .ref (aG G 9), .int (r 3)]), fun r => .inl (G.2.2.1, 300, .inl r), fun r => .inl (G.2.2.1, 300, .inl r), fun r => .inl (G.2.2.1, 300, .inl r), fun r => .inr (6, [.ref (aG G 11), .ref (aG G 14), .ref (aG G 17), .int (r 3), .int (r 4), .int (r 5)]), fun r => .inr (2, [.ref (aG G 12), .ref (aG G 13), .int (r 2), .int (r 3), .int (r 4)]), fun r => .inl (G.2.2.1, 8, .inl r), fun r => .inl (G.2.2.1, 64, .inl r), fun r => .inr (3, [.ref (aG G 15), .ref (aG G 16)]), fun r => .inl (G.2.2.1, 64, .inl r), fun r => .inl (G.2.2.1, 256, .inl r), fun r => .inl (G.2.2.1, 224, .inl r), fun r => .inr (3, [.ref (aG G 19), .ref (aG G 20)]), fun r => .inl (G.2.2.1, 64, .inl r), fun r => .inl (G.2.2.1, 256, .inl r), fun r => .inr (7, [.ref (aG G 22), .ref (aG G 25), .ref (aG G 26), .int (r 3), .int (r 4)]), fun r => .inr (2, [.ref (aG G 23), .ref (aG G 24), .int (r 2), .int (r 3), .int (r 4)]), fun r => .inl (G.2.2.1, 8, .inl r), fun r => .inl (G.2.2.1, 64, .inl r), fun r => .inl (G.2.2.1, 8, .inl r), fun r => .inl (G.2.2.1, 8, .inl r), fun r => .inr (9, [.ref (aG G 28), .ref (aG G 29), .int (r 2)]), fun r => .inl (G.2.2.1, 8, .inl r), fun r => .inl (G.2.2.1, 8, .inl r), fun r => .inr (8, [.ref (aG G 31), .ref (aG G 34), .ref (aG G 35), .ref (aG G 36), .ref (aG G 37), .int (r 5), .ref (aG G 38), .int (r 7)]), fun r => .inr (9, [.ref (aG G 32), .ref (aG G 33), .int (r 2)]), fun r => .inl (G.2.2.1, 8, .inl r), fun r => .inl (G.2.2.1, 8, .inl r), fun r => .inl (G.2.2.1, 8, .inl r), fun r => .inl (G.2.2.1, 12, .inl r), fun r => .inl (G.2.2.1, 12, .inl r), fun r => .inl (G.2.2.1, 12, .inl r), fun r => .inl (G.2.2.1, 12, .inl r), fun r => .inr (5, [.ref (aG G 40), .ref (aG G 41), .int (r 2)]), fun r => .inl (G.2.2.1, 300, .inl r), fun r => .inl (G.2.2.1, 300, .inl r), fun r => .inr (11, [.int (r 0), .int (r 1), .ref (aG G 43), .ref (aG G 44), .int (r 4), .ref (aG G 45), .ref (aG G 46), .ref (aG G 47), .ref (aG G 48), .ref (aG G 49), .int (r 10), .int (r 11), .int (r 12), .int (r 13), .int (r 14), .ref (aG G 50), .ref (aG G 51), .ref (aG G 52), .ref (aG G 53), .int (r 19), .int (r 20), .int (r 21), .ref (aG G 54), .ref (aG G 55), .ref (aG G 56), .ref (aG G 57), .int (r 26), .ref (aG G 58), .int (r 28), .ref (aG G 59), .ref (aG G 60), .ref (aG G 61), .int (r 32), .ref (aG G 62), .int (r 34), .ref (aG G 63), .ref (aG G 64), .ref (aG G 65), .int (r 38)]), fun r => .inl (G.2.2.1, 8, .inl r), fun r => .inl (G.2.2.1, 8, .inl r), fun r => .inl (G.2.2.1, 300, .inl r), fun r => .inl (G.2.2.1, 300, .inl r), fun r => .inl (G.2.2.1, 300, .inl r), fun r => .inl (G.2.2.2.1, 256, .inl r), fun r => .inl (G.2.2.2.1, 256, .inl r), fun r => .inl (G.2.2.2.1, 256, .inl r), fun r => .inl (G.2.2.1, 256, .inl r), fun r => .inl (G.2.2.2.1, 256, .inl r), fun r => .inl (G.2.2.1, 256, .inl r), fun r => .inl (G.2.2.1, 8, .inl r), fun r => .inl (G.2.2.1, 8, .inl r), fun r => .inl (G.2.2.2.1, 256, .inl r), fun r => .inl (G.2.2.2.1, 256, .inl r), fun r => .inl (G.2.2.2.1, 256, .inl r), fun r => .inl (G.2.2.1, 12, .inl r), fun r => .inl (G.2.2.1, 12, .inl r), fun r => .inl (G.2.2.1, 12, .inl r), fun r => .inl (G.2.2.1, 12, .inl r), fun r => .inl (G.2.2.1, 300, .inl r), fun r => .inl (G.2.2.1, 300, .inl r), fun r => .inl (G.2.2.1, 300, .inl r)]
def ent (G : GT) (k : Nat) (r : Nat → Int32) : va_E := (entL G).getD k (fun _ => .inr (0, [])) r
def wd (G : GT) (τ : Hp) : va_W := (List.range 66).map (fun k => (aG G k, ent G k (τ k)))
theorem wd_get {G : GT} {τ : Hp} {k : Nat} (hk : k < 66) : (wd G τ)[k]? = some (aG G k, ent G k (τ k)) := by
  unfold wd
  rw [List.getElem?_map, List.getElem?_range hk]
  rfl
theorem wd_len {G : GT} {τ : Hp} : (wd G τ).length = 66 := by unfold wd; rw [List.length_map, List.length_range]
theorem wd_out {G : GT} {τ : Hp} {k : Nat} (hk : ¬ k < 66) : (wd G τ)[k]? = none := by
  rw [List.getElem?_eq_none_iff, wd_len]; omega
theorem wd_set {G : GT} {τ : Hp} {k : Nat} (hk : k < 66) (r : Nat → Int32) : (wd G τ).set k (aG G k, ent G k r) = wd G (upR τ k r) := by
  apply List.ext_getElem?
  intro j
  rw [List.getElem?_set]
  by_cases hj : k = j
  · subst hj
    rw [if_pos rfl, if_pos (by rw [wd_len]; exact hk), wd_get hk, upR_s]
  · rw [if_neg hj]
    by_cases h6 : j < 66
    · rw [wd_get h6, wd_get h6, upR_n (fun q => hj q.symm)]
    · rw [wd_out h6, wd_out h6]
def adOK (G : GT) : Prop := (∀ i j : Nat, i < 66 → j < 66 → aG G i = aG G j → i = j) ∧ ∀ k : Nat, k < 66 → zG G ≤ aG G k
def Fr (G : GT) : Nat → Prop := fun q => zG G ≤ q
theorem wd_in {G : GT} {τ : Hp} {k : Nat} {q : Nat × va_E} (h : (wd G τ)[k]? = some q) : k < 66 ∧ q.1 = aG G k := by
  by_cases hk : k < 66
  · rw [wd_get hk] at h; cases h; exact ⟨hk, rfl⟩
  · rw [wd_out hk] at h; cases h
theorem wd_D {G : GT} (h : adOK G) (τ : Hp) : va_D (Fr G) (wd G τ) := by
  refine ⟨fun i j p q hi hj e => ?_, fun k q hk => ?_⟩
  · obtain ⟨a1, a2⟩ := wd_in hi
    obtain ⟨b1, b2⟩ := wd_in hj
    exact h.1 i j a1 b1 (by rw [← a2, ← b2]; exact e)
  · obtain ⟨a1, a2⟩ := wd_in hk
    show zG G ≤ q.1
    rw [a2]; exact h.2 k a1
abbrev tyG (G : GT) : List (ClassId × FieldType) := [(G.2.2.1, .int), (G.2.2.2.1, .boolean)]
def Bd (G : GT) (τ : Hp) (U : State) : Prop := va_P G.1 vwCl (wd G τ) U.heap ∧ va_K G.1 vwCl (tyG G) U ∧ zG G ≤ U.heap.size ∧ nwOK U ∧ adOK G
theorem Bd.blind {G : GT} {τ : Hp} {av : List Value} : FrameBlind (va_Pc av (Bd G τ)) := fun a U g mk q => ⟨q.1, q.2.1, va_K.moved (u := U) (U := U.calling g mk a) (Vm.Alike.refl U.vm) q.2.2.1, q.2.2.2.1, ⟨fun z hz => va_Nw.same rfl rfl (q.2.2.2.2.1.1 z hz), fun z hz => va_Nw.same rfl rfl (q.2.2.2.2.1.2 z hz)⟩, q.2.2.2.2.2⟩
def QI (G : GT) (r : Int32) (τ : Hp) : Array Value → State → Outcome → State → Prop := va_Qi (fun (r' : Int32) (υ : Hp) => r' = r ∧ υ = τ) (fun υ t => va_P G.1 vwCl (wd G υ) t.heap) (Fr G)
def QV (G : GT) (τ : Hp) : Array Value → State → Outcome → State → Prop := va_Qv (fun υ : Hp => υ = τ) (fun υ t => va_P G.1 vwCl (wd G υ) t.heap) (Fr G)
abbrev rmG (fr lo : Nat) : Room := { frames := fr, cells := 0, slots := 0, locals := lo }
def MI (l : Launch) (G : GT) (y : MethodName) (cc : ByteArray) (nL : Nat) (ret : Option FieldType) (fr lo : Nat) (av : List Value) (τ : Hp) (r : Int32) (υ : Hp) : Prop := Met l y (.code y cc nL ret :: TBL) (rmG fr lo) (va_Pc av (Bd G τ)) (QI G r υ) 0 0 (Fr G)
def MV (l : Launch) (G : GT) (y : MethodName) (cc : ByteArray) (nL : Nat) (fr lo : Nat) (av : List Value) (τ υ : Hp) : Prop := Met l y (.code y cc nL none :: TBL) (rmG fr lo) (va_Pc av (Bd G τ)) (QV G υ) 0 0 (Fr G)
/-- what stands through a method: the machine, its code, the words, the classes -/
def Cx (G : GT) (p : Program) (s : State) (m : MethodId) (args : Array Value) (meth : Method) (c : Code) (cc : ByteArray) (nL : Nat) (own : String) (ret : Option FieldType) : Prop :=
  p.tables.exec = Jvm.exec ∧ c.code = cc ∧ c.maxLocals = nL ∧ s.vm.findClass own = some m.cls ∧ (∀ w ∈ TBL, w.before args s = true) ∧ va_K G.1 vwCl (tyG G) s ∧ zG G ≤ s.heap.size ∧ nwOK s ∧ adOK G ∧ meth.sig.returnType = ret ∧ meth.locks = false
section CX
variable {G : GT} {p : Program} {s : State} {m : MethodId} {args : Array Value} {meth : Method} {c : Code} {cc : ByteArray} {nL : Nat} {own : String} {ret : Option FieldType}
theorem Cx.hx (X : Cx G p s m args meth c cc nL own ret) : p.tables.exec = Jvm.exec := X.1
theorem Cx.hb (X : Cx G p s m args meth c cc nL own ret) : c.code = cc := X.2.1
theorem Cx.hml (X : Cx G p s m args meth c cc nL own ret) : c.maxLocals = nL := X.2.2.1
theorem Cx.hown (X : Cx G p s m args meth c cc nL own ret) : s.vm.findClass own = some m.cls := X.2.2.2.1
theorem Cx.hts (X : Cx G p s m args meth c cc nL own ret) : ∀ w ∈ TBL, w.before args s = true := X.2.2.2.2.1
theorem Cx.hK (X : Cx G p s m args meth c cc nL own ret) : va_K G.1 vwCl (tyG G) s := X.2.2.2.2.2.1
theorem Cx.hz (X : Cx G p s m args meth c cc nL own ret) : zG G ≤ s.heap.size := X.2.2.2.2.2.2.1
theorem Cx.nw (X : Cx G p s m args meth c cc nL own ret) : nwOK s := X.2.2.2.2.2.2.2.1
theorem Cx.ad (X : Cx G p s m args meth c cc nL own ret) : adOK G := X.2.2.2.2.2.2.2.2.1
theorem Cx.hr (X : Cx G p s m args meth c cc nL own ret) : meth.sig.returnType = ret := X.2.2.2.2.2.2.2.2.2.1
theorem Cx.lk (X : Cx G p s m args meth c cc nL own ret) : meth.locks = false := X.2.2.2.2.2.2.2.2.2.2
end CX
/-- the heap now: the picture, and nothing else has changed -/
def Hs (G : GT) (τ : Hp) (s : State) (H : Heap) (locs : List Loc) : Prop := va_P G.1 vwCl (wd G τ) H ∧ va_S (Fr G) s.heap H locs
def FA (G : GT) (k ci j : Nat) (C : String) (T : u_T) (N : Nat) (fs : (Nat → Int32) → List Value) (v : (Nat → Int32) → Value) : Prop := k < 66 ∧ (∀ r, ent G k r = .inr (ci, fs r)) ∧ vwCl[ci]? = some (C, T, N) ∧ j < N ∧ (∀ w ∈ u_ws C T N, w ∈ TBL) ∧ ∀ r, (fs r)[j]? = some (v r)
def FP (G : GT) (k ci j : Nat) (C : String) (T : u_T) (N : Nat) (ty : FieldType) (ty0 : Nat → FieldType) (fs : (Nat → Int32) → List Value) : Prop := k < 66 ∧ (∀ r, ent G k r = .inr (ci, fs r)) ∧ vwCl[ci]? = some (C, T, N) ∧ j < N ∧ (∀ w ∈ u_ws C T N, w ∈ TBL) ∧ (∀ r x, (fs r).set j (.int x) = fs (upd r j x)) ∧ (∀ r, j < (fs r).length) ∧ (T j).2.2.2 = false ∧ parseFieldDescriptor (T j).2.2.1 = some ty ∧ (∀ k, k < N → parseFieldDescriptor (T k).2.2.1 = some (ty0 k)) ∧ (∀ a, a < N → ∀ b, b < N → a ≠ b → (T a).2.1 ≠ (T b).2.1)
def AI (G : GT) (k n : Nat) : Prop := k < 66 ∧ ∀ r, ent G k r = .inl (G.2.2.1, n, .inl r)
def AZ (G : GT) (k n : Nat) : Prop := k < 66 ∧ ∀ r, ent G k r = .inl (G.2.2.2.1, n, .inl r)
def inb (i : Int32) (n : Nat) : Bool := decide (0 ≤ i.toInt ∧ i.toInt < n)
theorem inb_in {i : Int32} {n : Nat} (h : inb i n = true) : vp_in i n := vp_in_iff.mpr (of_decide_eq_true h)
def isB (x : Int32) : Bool := x == 0 || x == 1
theorem isB_or {x : Int32} (h : isB x = true) : x = 0 ∨ x = 1 := by
  unfold isB at h
  rcases (Bool.or_eq_true _ _).mp h with h | h
  · exact Or.inl (eq_of_beq h)
  · exact Or.inr (eq_of_beq h)
theorem isB_n {x : Int32} (h : isB x = true) : narrow .boolean (.int x) = .int x := by
  rcases isB_or h with rfl | rfl <;> rfl
theorem isB_f {x : Int32} (h : isB x = true) : fits .boolean (.int x) = true := by
  rcases isB_or h with rfl | rfl <;> decide
abbrev OR : Type := Option (Int32 × Hp)
def ogd (b : Bool) (x : OR) : OR := if b = true then x else none
def ilet {α : Type} (x : α) (f : α → OR) : OR := f x
def obd (o : OR) (f : Int32 → Hp → OR) : OR := match o with
  | some (r, τ) => f r τ
  | none => none
theorem e_t {c : Prop} {_ : Decidable c} {a b : OR} {z : Int32 × Hp} (hc : c) (h : (if c then a else b) = some z) : a = some z := by rw [if_pos hc] at h; exact h
theorem e_f {c : Prop} {_ : Decidable c} {a b : OR} {z : Int32 × Hp} (hc : ¬ c) (h : (if c then a else b) = some z) : b = some z := by rw [if_neg hc] at h; exact h
theorem e_g {b : Bool} {x : OR} {z : Int32 × Hp} (h : ogd b x = some z) : b = true ∧ x = some z := by
  unfold ogd at h
  by_cases hb : b = true
  · rw [if_pos hb] at h; exact ⟨hb, h⟩
  · rw [if_neg hb] at h; cases h
theorem e_l {α : Type} {x : α} {f : α → OR} {z : Int32 × Hp} (h : ilet x f = some z) : ∃ y : α, y = x ∧ f y = some z := ⟨x, rfl, h⟩
theorem e_b {o : OR} {f : Int32 → Hp → OR} {z : Int32 × Hp} (h : obd o f = some z) : ∃ (r : Int32) (τ : Hp), o = some (r, τ) ∧ f r τ = some z := by
  cases o with
  | none => cases h
  | some q => exact ⟨q.1, q.2, rfl, h⟩
def nz (x : Int32) : Int32 := vp_nar .boolean x
def imax (x y : Int32) : Int32 := if x < y then y else x
section WR
variable {G : GT} {p : Program} {l : Launch} {e : Env} {R : Room} {s : State} {m : MethodId} {args : Array Value} {below : List Frame} {meth : Method} {c : Code} {H : Heap} {locs : List Loc} {Q : State → Prop} {cc : ByteArray} {nL : Nat} {own : String} {ret : Option FieldType} {τ : Hp} {pc cells slots : Nat} {ls : Array Slot} {rest : List Value}
theorem g_nm {x y : Int32} (h : y = x) (k : W p l e R s m args below meth c H locs cells slots Q (F0 m pc ls (.int y :: rest))) : W p l e R s m args below meth c H locs cells slots Q (F0 m pc ls (.int x :: rest)) := h ▸ k
theorem g_get (X : Cx G p s m args meth c cc nL own ret) (hH : Hs G τ s H locs) {k ci j N : Nat} {C : String} {T : u_T} {fs : (Nat → Int32) → List Value} {v : (Nat → Int32) → Value} (hF : FA G k ci j C T N fs v) {index : Nat} (hw : Cond.fieldLink own index (T j).1 (T j).2.1 (T j).2.2.1 ∈ TBL) (hd : decode cc pc = .ok (.getfield index, 3))
    (kk : W p l e R s m args below meth c H locs cells slots Q (F0 m (pc + 3) ls (v (τ k) :: rest))) : W p l e R s m args below meth c H locs cells slots Q (F0 m pc ls (.ref (aG G k) :: rest)) :=
  va_get X.hx X.hb X.hts hF.2.2.2.2.1 X.hown X.hK hH.1 k ((wd_get hF.1).trans (by rw [hF.2.1 (τ k)])) hF.2.2.1 j hF.2.2.2.1 (X.hts _ hw) (fun _ h => h) (hF.2.2.2.2.2 (τ k)) hd kk
theorem g_getN (X : Cx G p s m args meth c cc nL own ret) (hH : Hs G τ s H locs) {k ci j N : Nat} {C : String} {T : u_T} {fs : (Nat → Int32) → List Value} {v : (Nat → Int32) → Value} (hF : FA G k ci j C T N fs v) {index : Nat} (i : Nat) (hw : nF[i]? = some (own, index, (T j).1, (T j).2.1, (T j).2.2.1)) (hd : decode cc pc = .ok (.getfield index, 3))
    (kk : W p l e R s m args below meth c H locs cells slots Q (F0 m (pc + 3) ls (v (τ k) :: rest))) : W p l e R s m args below meth c H locs cells slots Q (F0 m pc ls (.ref (aG G k) :: rest)) :=
  va_getN X.hx X.hb X.hts hF.2.2.2.2.1 X.hown X.hK hH.1 k ((wd_get hF.1).trans (by rw [hF.2.1 (τ k)])) hF.2.2.1 j hF.2.2.2.1 (va_Nw.use rfl (X.nw.f i hw)) (fun _ h => h) (hF.2.2.2.2.2 (τ k)) hd kk
theorem hs_put (X : Cx G p s m args meth c cc nL own ret) {k ci j N : Nat} {C : String} {T : u_T} {ty : FieldType} {ty0 : Nat → FieldType} {fs : (Nat → Int32) → List Value} (hF : FP G k ci j C T N ty ty0 fs) {x : Int32} {H1 : Heap} {locs1 : List Loc} (h1 : va_P G.1 vwCl ((wd G τ).set k (aG G k, .inr (ci, (fs (τ k)).set j (.int x)))) H1) (h2 : va_S (Fr G) s.heap H1 locs1) : Hs G (upR τ k (upd (τ k) j x)) s H1 locs1 := by
  refine ⟨?_, h2⟩
  rw [hF.2.2.2.2.2.1, ← hF.2.1, wd_set hF.1] at h1
  exact h1
theorem g_put (X : Cx G p s m args meth c cc nL own ret) (hH : Hs G τ s H locs) {k ci j N : Nat} {C : String} {T : u_T} {ty : FieldType} {ty0 : Nat → FieldType} {fs : (Nat → Int32) → List Value} (hF : FP G k ci j C T N ty ty0 fs) {index : Nat} (hw : Cond.fieldLink own index (T j).1 (T j).2.1 (T j).2.2.1 ∈ TBL) {x : Int32} (hn : narrow ty (.int x) = .int x) (hfit : fits ty (.int x) = true) (hd : decode cc pc = .ok (.putfield index, 3))
    (kk : ∀ (H1 : Heap) (locs1 : List Loc), Hs G (upR τ k (upd (τ k) j x)) s H1 locs1 → W p l e R s m args below meth c H1 locs1 cells slots Q (F0 m (pc + 3) ls rest)) : W p l e R s m args below meth c H locs cells slots Q (F0 m pc ls (.int x :: .ref (aG G k) :: rest)) :=
  va_put X.hx X.hb X.hts hF.2.2.2.2.1 ty0 hF.2.2.2.2.2.2.2.2.2.1 hF.2.2.2.2.2.2.2.2.2.2 X.hown X.hK hH.1 (wd_D X.ad τ) hH.2 k ((wd_get hF.1).trans (by rw [hF.2.1 (τ k)])) hF.2.2.1 j hF.2.2.2.1 (X.hts _ hw) (fun _ h => h) hF.2.2.2.2.2.2.2.1 hF.2.2.2.2.2.2.2.2.1 hn hfit (hF.2.2.2.2.2.2.1 (τ k)) hd (fun H1 locs1 h1 _ h3 => kk H1 locs1 (hs_put X hF h1 h3))
theorem g_putN (X : Cx G p s m args meth c cc nL own ret) (hH : Hs G τ s H locs) {k ci j N : Nat} {C : String} {T : u_T} {ty : FieldType} {ty0 : Nat → FieldType} {fs : (Nat → Int32) → List Value} (hF : FP G k ci j C T N ty ty0 fs) {index : Nat} (i : Nat) (hw : nF[i]? = some (own, index, (T j).1, (T j).2.1, (T j).2.2.1)) {x : Int32} (hn : narrow ty (.int x) = .int x) (hfit : fits ty (.int x) = true) (hd : decode cc pc = .ok (.putfield index, 3))
    (kk : ∀ (H1 : Heap) (locs1 : List Loc), Hs G (upR τ k (upd (τ k) j x)) s H1 locs1 → W p l e R s m args below meth c H1 locs1 cells slots Q (F0 m (pc + 3) ls rest)) : W p l e R s m args below meth c H locs cells slots Q (F0 m pc ls (.int x :: .ref (aG G k) :: rest)) :=
  va_putN X.hx X.hb X.hts hF.2.2.2.2.1 ty0 hF.2.2.2.2.2.2.2.2.2.1 hF.2.2.2.2.2.2.2.2.2.2 X.hown X.hK hH.1 (wd_D X.ad τ) hH.2 k ((wd_get hF.1).trans (by rw [hF.2.1 (τ k)])) hF.2.2.1 j hF.2.2.2.1 (va_Nw.use rfl (X.nw.f i hw)) (fun _ h => h) hF.2.2.2.2.2.2.2.1 hF.2.2.2.2.2.2.2.2.1 hn hfit (hF.2.2.2.2.2.2.1 (τ k)) hd (fun H1 locs1 h1 _ h3 => kk H1 locs1 (hs_put X hF h1 h3))
theorem a_ld (X : Cx G p s m args meth c cc nL own ret) (hH : Hs G τ s H locs) {k n : Nat} (hA : AI G k n) {i : Int32} (hi : inb i n = true) (hd : decode cc pc = .ok (.iaload, 1))
    (kk : W p l e R s m args below meth c H locs cells slots Q (F0 m (pc + 1) ls (.int (τ k i.toNatClampNeg) :: rest))) : W p l e R s m args below meth c H locs cells slots Q (F0 m pc ls (.int i :: .ref (aG G k) :: rest)) :=
  va_iald X.hx X.hb X.hK hH.1 k 0 ((wd_get hA.1).trans (by rw [hA.2 (τ k)])) rfl (inb_in hi) hd kk
theorem z_ld (X : Cx G p s m args meth c cc nL own ret) (hH : Hs G τ s H locs) {k n : Nat} (hA : AZ G k n) {i : Int32} (hi : inb i n = true) (hd : decode cc pc = .ok (.baload, 1))
    (kk : W p l e R s m args below meth c H locs cells slots Q (F0 m (pc + 1) ls (.int (τ k i.toNatClampNeg) :: rest))) : W p l e R s m args below meth c H locs cells slots Q (F0 m pc ls (.int i :: .ref (aG G k) :: rest)) :=
  va_zald X.hx X.hb X.hK hH.1 k 1 ((wd_get hA.1).trans (by rw [hA.2 (τ k)])) rfl (inb_in hi) hd kk
theorem a_st (X : Cx G p s m args meth c cc nL own ret) (hH : Hs G τ s H locs) {k n : Nat} (hA : AI G k n) {i x : Int32} (hi : inb i n = true) (hd : decode cc pc = .ok (.iastore, 1))
    (kk : ∀ (H1 : Heap) (locs1 : List Loc), Hs G (upR τ k (upd (τ k) i.toNatClampNeg x)) s H1 locs1 → W p l e R s m args below meth c H1 locs1 cells slots Q (F0 m (pc + 1) ls rest)) : W p l e R s m args below meth c H locs cells slots Q (F0 m pc ls (.int x :: .int i :: .ref (aG G k) :: rest)) :=
  va_iast X.hx X.hb X.hK hH.1 (wd_D X.ad τ) hH.2 k 0 ((wd_get hA.1).trans (by rw [hA.2 (τ k)])) rfl (inb_in hi) hd (fun H1 locs1 h1 _ h3 => kk H1 locs1 ⟨by rw [← hA.2, wd_set hA.1] at h1; exact h1, h3⟩)
theorem z_st (X : Cx G p s m args meth c cc nL own ret) (hH : Hs G τ s H locs) {k n : Nat} (hA : AZ G k n) {i x : Int32} (hi : inb i n = true) (hd : decode cc pc = .ok (.bastore, 1))
    (kk : ∀ (H1 : Heap) (locs1 : List Loc), Hs G (upR τ k (upd (τ k) i.toNatClampNeg (nz x))) s H1 locs1 → W p l e R s m args below meth c H1 locs1 cells slots Q (F0 m (pc + 1) ls rest)) : W p l e R s m args below meth c H locs cells slots Q (F0 m pc ls (.int x :: .int i :: .ref (aG G k) :: rest)) :=
  va_zast X.hx X.hb X.hK hH.1 (wd_D X.ad τ) hH.2 k 1 ((wd_get hA.1).trans (by rw [hA.2 (τ k)])) rfl (inb_in hi) hd (fun H1 locs1 h1 _ h3 => kk H1 locs1 ⟨by rw [← hA.2, wd_set hA.1] at h1; exact h1, h3⟩)
theorem a_len (X : Cx G p s m args meth c cc nL own ret) (hH : Hs G τ s H locs) {k n : Nat} (hA : AI G k n) (hd : decode cc pc = .ok (.arraylength, 1))
    (kk : W p l e R s m args below meth c H locs cells slots Q (F0 m (pc + 1) ls (.int (nI n) :: rest))) : W p l e R s m args below meth c H locs cells slots Q (F0 m pc ls (.ref (aG G k) :: rest)) :=
  va_alen (x := (n, .inl (τ k))) X.hx X.hb X.hK hH.1 k 0 ((wd_get hA.1).trans (by rw [hA.2 (τ k)])) rfl rfl hd kk
def cpR (τ : Hp) (a b n : Nat) : Hp := upR τ b (va_cpy (τ a) (τ b) 0 0 n)
theorem a_cp (X : Cx G p s m args meth c cc nL own ret) (hH : Hs G τ s H locs) {k0 k1 n0 n1 N : Nat} (hA : AI G k0 n0) (hB : AI G k1 n1) (hls : nL = ls.size) {index : Nat} (hw : Cond.methodLink own index arraycopyName ∈ TBL) (hnat : Cond.native arraycopyName ∈ TBL) (hst : Cond.static arraycopyName ∈ TBL) (hini : Cond.initialized "java/lang/System" ∈ TBL)
    {n : Int32} (hn : n.toNatClampNeg = N) (h3 : ¬ n < 0) (h4 : N ≤ n0) (h5 : N ≤ n1) (hfr : 1 ≤ R.frames) (hlo : (rest.map fun v => v.category).sum + (nativeFrameWords "java/lang/System" "arraycopy" 5 + 11) ≤ R.locals) (hd : decode cc pc = .ok (.invokestatic index, 3))
    (kk : ∀ (H1 : Heap) (locs1 : List Loc), Hs G (cpR τ k0 k1 N) s H1 locs1 → W p l e R s m args below meth c H1 locs1 cells slots Q (F0 m (pc + 3) ls rest)) : W p l e R s m args below meth c H locs cells slots Q (F0 m pc ls (.int n :: .int 0 :: .ref (aG G k1) :: .int 0 :: .ref (aG G k0) :: rest)) := by
  subst hn
  refine va_copyi X.hx X.hb (X.hml.trans hls) X.hown (X.hts _ hw) (X.hts _ hnat) (X.hts _ hst) (X.hts _ hini) X.hK hH.1 (wd_D X.ad τ) hH.2 k0 k1 0 0 ((wd_get hA.1).trans (by rw [hA.2 (τ k0)])) ((wd_get hB.1).trans (by rw [hB.2 (τ k1)])) rfl rfl rfl (by decide) (by decide) h3 (by rw [sb_cl0, Nat.zero_add]; exact h4) (by rw [sb_cl0, Nat.zero_add]; exact h5) (fun _ _ => rfl) hfr hlo hd (fun H1 locs1 h1 _ h3 => kk H1 locs1 ⟨?_, h3⟩)
  rw [← hB.2, wd_set hB.1, sb_cl0] at h1
  exact h1
theorem pre_G (X : Cx G p s m args meth c cc nL own ret) (hH : Hs G τ s H locs) {av : List Value} : ∀ U : State, U.heap = H → s.WarmedH U.vm → va_Pc av (Bd G τ) av.toArray U := fun U hU hW => ⟨rfl, by rw [hU]; exact hH.1, va_K.moved hW.alike X.hK, by rw [hU]; exact Nat.le_trans X.hz hH.2.1, X.nw.warm hW, X.ad⟩
theorem good_G {y : MethodName} {cc' : ByteArray} {n : Nat} {rt : Option FieldType} (h : Cond.code y cc' n rt ∈ TBL) : GoodIn TBL (.code y cc' n rt :: TBL) := fun w hw => by
  rcases List.mem_cons.mp hw with rfl | hw
  · exact ⟨h, tb_good h⟩
  · exact ⟨hw, tb_good hw⟩
theorem good_V {y : MethodName} {cc' : ByteArray} {n index : Nat} {rt : Option FieldType} {C : String} (h : Cond.code y cc' n rt ∈ TBL) (h1 : Cond.methodLink own index y ∈ TBL) (h2 : Cond.instanceMethod y ∈ TBL) (h3 : Cond.selects C y y ∈ TBL) (h4 : Cond.initialized C ∈ TBL) : GoodIn TBL (wsV own index C y (.code y cc' n rt :: TBL)) := fun w hw => by
  rcases List.mem_append.mp hw with hw | hw
  · have : w ∈ TBL := by
      rcases List.mem_cons.mp hw with rfl | hw
      · exact h1
      rcases List.mem_cons.mp hw with rfl | hw
      · exact h2
      rcases List.mem_cons.mp hw with rfl | hw
      · exact h3
      rcases List.mem_cons.mp hw with rfl | hw
      · exact h4
      cases hw
    exact ⟨this, tb_good this⟩
  · exact good_G h w hw
theorem good_S {y : MethodName} {cc' : ByteArray} {n index : Nat} {rt : Option FieldType} (h : Cond.code y cc' n rt ∈ TBL) (h1 : Cond.methodLink own index y ∈ TBL) (h2 : Cond.static y ∈ TBL) (h4 : Cond.initialized y.cls ∈ TBL) : GoodIn TBL (va_wsS own index y (.code y cc' n rt :: TBL)) := fun w hw => by
  rcases List.mem_append.mp hw with hw | hw
  · have : w ∈ TBL := by
      rcases List.mem_cons.mp hw with rfl | hw
      · exact h1
      rcases List.mem_cons.mp hw with rfl | hw
      · exact h2
      rcases List.mem_cons.mp hw with rfl | hw
      · exact h4
      cases hw
    exact ⟨this, tb_good this⟩
  · exact good_G h w hw
theorem fr_call {H : Heap} : ∀ q : Nat, Fr G q → Fr G q := fun _ h => h
/-- a virtual call, an int (or a boolean) comes back -/
theorem c_Vi (X : Cx G p s m args meth c cc nL own ret) (hH : Hs G τ s H locs) {y : MethodName} {cc' : ByteArray} {mL fr lo index n : Nat} {rt : Option FieldType} {r : Int32} {υ : Hp} {As : List Value} {k ci : Nat} {C : String} {T : u_T} {N : Nat} {fs : List Value} {st : List Value} (hM : MI l G y cc' mL rt fr lo (.ref (aG G k) :: As) τ r υ)
    (hk : k < 66) (he : ent G k (τ k) = .inr (ci, fs)) (hc : vwCl[ci]? = some (C, T, N)) (w0 : Cond.code y cc' mL rt ∈ TBL) (w1 : Cond.methodLink own index y ∈ TBL) (w2 : Cond.instanceMethod y ∈ TBL) (w3 : Cond.selects C y y ∈ TBL) (w4 : Cond.initialized C ∈ TBL) (hy : y.cls = C ∧ y.cls ≠ "java/lang/invoke/MethodHandle" ∧ y.cls ≠ "java/lang/invoke/VarHandle" ∧ (parseMethodDescriptor y.desc).map (fun d => d.parameters.length) = some n) (hR : fr + 1 ≤ R.frames ∧ 8 + (mL + 11) + lo ≤ R.locals)
    (hn : As.length = n) (hls : ls.size = nL) (hst : st = As.reverse ++ .ref (aG G k) :: rest) (hroom : (rest.map fun v => v.category).sum ≤ 8) (hcs : cells ≤ R.cells ∧ slots ≤ R.slots) (hd : decode cc pc = .ok (.invokevirtual index, 3))
    (kk : ∀ (H1 : Heap) (locs1 : List Loc), Hs G υ s H1 locs1 → W p l e R s m args below meth c H1 locs1 cells slots Q (F0 m (pc + 3) ls (.int r :: rest))) : W p l e R s m args below meth c H locs cells slots Q (F0 m pc ls st) := by
  refine va_calli (va_runV (As := As) (rest := rest) ⟨X.hx, X.hb, X.hml, X.hown, X.hts⟩ hM (cwV n X.hts (good_V w0 w1 w2 w3 w4) rfl rfl rfl hy hR) ⟨Bd.blind, va_recv X.hK hH.1 hc ((wd_get hk).trans (by rw [he])), pre_G X hH⟩ rfl hn hls hst (lv_room hroom) hd hcs) hH.2 (fun _ _ h => h) (fun _ h => h) (fun r1 υ1 t H1 locs1 ht _ hw hB _ _ hS => ?_)
  obtain ⟨rfl, rfl⟩ := hw
  exact kk H1 locs1 ⟨by rw [← ht]; exact hB, hS⟩
theorem c_Vv (X : Cx G p s m args meth c cc nL own ret) (hH : Hs G τ s H locs) {y : MethodName} {cc' : ByteArray} {mL fr lo index n : Nat} {υ : Hp} {As : List Value} {k ci : Nat} {C : String} {T : u_T} {N : Nat} {fs : List Value} {st : List Value} (hM : MV l G y cc' mL fr lo (.ref (aG G k) :: As) τ υ)
    (hk : k < 66) (he : ent G k (τ k) = .inr (ci, fs)) (hc : vwCl[ci]? = some (C, T, N)) (w0 : Cond.code y cc' mL none ∈ TBL) (w1 : Cond.methodLink own index y ∈ TBL) (w2 : Cond.instanceMethod y ∈ TBL) (w3 : Cond.selects C y y ∈ TBL) (w4 : Cond.initialized C ∈ TBL) (hy : y.cls = C ∧ y.cls ≠ "java/lang/invoke/MethodHandle" ∧ y.cls ≠ "java/lang/invoke/VarHandle" ∧ (parseMethodDescriptor y.desc).map (fun d => d.parameters.length) = some n) (hR : fr + 1 ≤ R.frames ∧ 8 + (mL + 11) + lo ≤ R.locals)
    (hn : As.length = n) (hls : ls.size = nL) (hst : st = As.reverse ++ .ref (aG G k) :: rest) (hroom : (rest.map fun v => v.category).sum ≤ 8) (hcs : cells ≤ R.cells ∧ slots ≤ R.slots) (hd : decode cc pc = .ok (.invokevirtual index, 3))
    (kk : ∀ (H1 : Heap) (locs1 : List Loc), Hs G υ s H1 locs1 → W p l e R s m args below meth c H1 locs1 cells slots Q (F0 m (pc + 3) ls rest)) : W p l e R s m args below meth c H locs cells slots Q (F0 m pc ls st) := by
  refine va_callv (va_runV (As := As) (rest := rest) ⟨X.hx, X.hb, X.hml, X.hown, X.hts⟩ hM (cwV n X.hts (good_V w0 w1 w2 w3 w4) rfl rfl rfl hy hR) ⟨Bd.blind, va_recv X.hK hH.1 hc ((wd_get hk).trans (by rw [he])), pre_G X hH⟩ rfl hn hls hst (lv_room hroom) hd hcs) hH.2 (fun _ _ h => h) (fun _ h => h) (fun υ1 t H1 locs1 ht _ hw hB _ _ hS => ?_)
  obtain rfl := hw
  exact kk H1 locs1 ⟨by rw [← ht]; exact hB, hS⟩
theorem c_Si (X : Cx G p s m args meth c cc nL own ret) (hH : Hs G τ s H locs) {y : MethodName} {cc' : ByteArray} {mL fr lo index n : Nat} {rt : Option FieldType} {r : Int32} {υ : Hp} {As : List Value} {st : List Value} (hM : MI l G y cc' mL rt fr lo As τ r υ)
    (w0 : Cond.code y cc' mL rt ∈ TBL) (w1 : Cond.methodLink own index y ∈ TBL) (w2 : Cond.static y ∈ TBL) (w4 : Cond.initialized y.cls ∈ TBL) (hy : y.cls ≠ "java/lang/invoke/MethodHandle" ∧ y.cls ≠ "java/lang/invoke/VarHandle" ∧ (parseMethodDescriptor y.desc).map (fun d => d.parameters.length) = some n) (hR : fr + 1 ≤ R.frames ∧ 8 + (mL + 11) + lo ≤ R.locals)
    (hn : As.length = n) (hls : ls.size = nL) (hst : st = As.reverse ++ rest) (hroom : (rest.map fun v => v.category).sum ≤ 8) (hcs : cells ≤ R.cells ∧ slots ≤ R.slots) (hd : decode cc pc = .ok (.invokestatic index, 3))
    (kk : ∀ (H1 : Heap) (locs1 : List Loc), Hs G υ s H1 locs1 → W p l e R s m args below meth c H1 locs1 cells slots Q (F0 m (pc + 3) ls (.int r :: rest))) : W p l e R s m args below meth c H locs cells slots Q (F0 m pc ls st) := by
  refine va_calli (va_runS (As := As) (rest := rest) ⟨X.hx, X.hb, X.hml, X.hown, X.hts⟩ hM (va_cwS n X.hts (good_S w0 w1 w2 w4) rfl rfl rfl hy hR) ⟨Bd.blind, pre_G X hH⟩ rfl hn hls hst (lv_room hroom) hd hcs) hH.2 (fun _ _ h => h) (fun _ h => h) (fun r1 υ1 t H1 locs1 ht _ hw hB _ _ hS => ?_)
  obtain ⟨rfl, rfl⟩ := hw
  exact kk H1 locs1 ⟨by rw [← ht]; exact hB, hS⟩
theorem c_Sv (X : Cx G p s m args meth c cc nL own ret) (hH : Hs G τ s H locs) {y : MethodName} {cc' : ByteArray} {mL fr lo index n : Nat} {υ : Hp} {As : List Value} {st : List Value} (hM : MV l G y cc' mL fr lo As τ υ)
    (w0 : Cond.code y cc' mL none ∈ TBL) (w1 : Cond.methodLink own index y ∈ TBL) (w2 : Cond.static y ∈ TBL) (w4 : Cond.initialized y.cls ∈ TBL) (hy : y.cls ≠ "java/lang/invoke/MethodHandle" ∧ y.cls ≠ "java/lang/invoke/VarHandle" ∧ (parseMethodDescriptor y.desc).map (fun d => d.parameters.length) = some n) (hR : fr + 1 ≤ R.frames ∧ 8 + (mL + 11) + lo ≤ R.locals)
    (hn : As.length = n) (hls : ls.size = nL) (hst : st = As.reverse ++ rest) (hroom : (rest.map fun v => v.category).sum ≤ 8) (hcs : cells ≤ R.cells ∧ slots ≤ R.slots) (hd : decode cc pc = .ok (.invokestatic index, 3))
    (kk : ∀ (H1 : Heap) (locs1 : List Loc), Hs G υ s H1 locs1 → W p l e R s m args below meth c H1 locs1 cells slots Q (F0 m (pc + 3) ls rest)) : W p l e R s m args below meth c H locs cells slots Q (F0 m pc ls st) := by
  refine va_callv (va_runS (As := As) (rest := rest) ⟨X.hx, X.hb, X.hml, X.hown, X.hts⟩ hM (va_cwS n X.hts (good_S w0 w1 w2 w4) rfl rfl rfl hy hR) ⟨Bd.blind, pre_G X hH⟩ rfl hn hls hst (lv_room hroom) hd hcs) hH.2 (fun _ _ h => h) (fun _ h => h) (fun υ1 t H1 locs1 ht _ hw hB _ _ hS => ?_)
  obtain rfl := hw
  exact kk H1 locs1 ⟨by rw [← ht]; exact hB, hS⟩
/-- a nest mate's private static -/
theorem c_SNi (X : Cx G p s m args meth c cc nL own ret) (hH : Hs G τ s H locs) {y : MethodName} {cc' : ByteArray} {mL fr lo index n : Nat} {rt : Option FieldType} {r : Int32} {υ : Hp} {As : List Value} {st : List Value} (hM : MI l G y cc' mL rt fr lo As τ r υ)
    (w0 : Cond.code y cc' mL rt ∈ TBL) (i : Nat) (w1 : nM[i]? = some (own, index, y)) (w2 : Cond.static y ∈ TBL) (w4 : Cond.initialized y.cls ∈ TBL) (hy : y.cls ≠ "java/lang/invoke/MethodHandle" ∧ y.cls ≠ "java/lang/invoke/VarHandle" ∧ (parseMethodDescriptor y.desc).map (fun d => d.parameters.length) = some n) (hR : fr + 1 ≤ R.frames ∧ 8 + (mL + 11) + lo ≤ R.locals)
    (hn : As.length = n) (hls : ls.size = nL) (hst : st = As.reverse ++ rest) (hroom : (rest.map fun v => v.category).sum ≤ 8) (hcs : cells ≤ R.cells ∧ slots ≤ R.slots) (hd : decode cc pc = .ok (.invokestatic index, 3))
    (kk : ∀ (H1 : Heap) (locs1 : List Loc), Hs G υ s H1 locs1 → W p l e R s m args below meth c H1 locs1 cells slots Q (F0 m (pc + 3) ls (.int r :: rest))) : W p l e R s m args below meth c H locs cells slots Q (F0 m pc ls st) := by
  refine va_calli (va_runSN (As := As) (rest := rest) ⟨X.hx, X.hb, X.hml, X.hown, X.hts⟩ hM ⟨va_cnB n X.hts (good_G w0) rfl rfl rfl (X.nw.m i w1) (X.hts _ w4) hy hR, X.hts _ w2, trivial⟩ ⟨Bd.blind, pre_G X hH⟩ rfl hn hls hst (lv_room hroom) hd hcs) hH.2 (fun _ _ h => h) (fun _ h => h) (fun r1 υ1 t H1 locs1 ht _ hw hB _ _ hS => ?_)
  obtain ⟨rfl, rfl⟩ := hw
  exact kk H1 locs1 ⟨by rw [← ht]; exact hB, hS⟩
theorem g_max (X : Cx G p s m args meth c cc nL own ret) (hls : nL = ls.size) {index : Nat} (w1 : Cond.methodLink own index Lib.Math.max.name ∈ TBL) (w2 : Cond.static Lib.Math.max.name ∈ TBL) (w3 : Cond.initialized "java/lang/Math" ∈ TBL) (w4 : Cond.code Lib.Math.max.name Lib.Math.max.code 2 (some .int) ∈ TBL) (hfr : 1 ≤ R.frames) (hlo : (rest.map fun v => v.category).sum + 13 ≤ R.locals) {x y : Int32} (hcs : cells ≤ R.cells ∧ slots ≤ R.slots) (hd : decode cc pc = .ok (.invokestatic index, 3))
    (kk : W p l e R s m args below meth c H locs cells slots Q (F0 m (pc + 3) ls (.int (imax x y) :: rest))) : W p l e R s m args below meth c H locs cells slots Q (F0 m pc ls (.int y :: .int x :: rest)) :=
  va_mmax X.hx X.hb (X.hml.trans hls) X.hown (X.hts _ w1) (X.hts _ w2) (X.hts _ w3) (X.hts _ w4) hfr hlo hcs.1 hcs.2 hd kk
abbrev WI (l : Launch) (G : GT) (R : Room) (p : Program) (e : Env) (s : State) (m : MethodId) (args : Array Value) (below : List Frame) (meth : Method) (c : Code) (r : Int32) (υ : Hp) (H : Heap) (locs : List Loc) (g : JFrame) : Prop := W p l e R s m args below meth c H locs 0 0 (MQ below (QI G r υ) args s 0 0 (Fr G)) g
abbrev WV (l : Launch) (G : GT) (R : Room) (p : Program) (e : Env) (s : State) (m : MethodId) (args : Array Value) (below : List Frame) (meth : Method) (c : Code) (υ : Hp) (H : Heap) (locs : List Loc) (g : JFrame) : Prop := W p l e R s m args below meth c H locs 0 0 (MQ below (QV G υ) args s 0 0 (Fr G)) g
theorem r_i (X : Cx G p s m args meth c cc nL own (some .int)) (hH : Hs G τ s H locs) {v r : Int32} {υ : Hp} (hf : (some (v, τ) : OR) = some (r, υ)) (hd : decode cc pc = .ok (.ireturn, 1)) : WI l G R p e s m args below meth c r υ H locs (F0 m pc ls [.int v]) := by
  cases hf
  exact W.iret X.hx X.hb X.hr (fun t ht _ => ⟨⟨v, τ, rfl, ⟨rfl, rfl⟩, by show va_P G.1 vwCl (wd G τ) t.heap; rw [ht]; exact hH.1⟩, hH.2.F ht⟩) hH.2.2.2 hd X.lk
theorem r_z (X : Cx G p s m args meth c cc nL own (some .boolean)) (hH : Hs G τ s H locs) {v r : Int32} {υ : Hp} (hb : isB v = true) (hf : (some (v, τ) : OR) = some (r, υ)) (hd : decode cc pc = .ok (.ireturn, 1)) : WI l G R p e s m args below meth c r υ H locs (F0 m pc ls [.int v]) := by
  cases hf
  exact W.zret X.hx X.hb X.hr (isB_n hb) (fun t ht _ => ⟨⟨v, τ, rfl, ⟨rfl, rfl⟩, by show va_P G.1 vwCl (wd G τ) t.heap; rw [ht]; exact hH.1⟩, hH.2.F ht⟩) hH.2.2.2 hd X.lk
theorem r_v (X : Cx G p s m args meth c cc nL own none) (hH : Hs G τ s H locs) {v r : Int32} {υ : Hp} (hf : (some (v, τ) : OR) = some (r, υ)) (hd : decode cc pc = .ok (.return_, 1)) : WV l G R p e s m args below meth c υ H locs (F0 m pc ls []) := by
  cases hf
  exact W.vret X.hx X.hb X.hr (fun t ht _ => ⟨⟨τ, rfl, rfl, by show va_P G.1 vwCl (wd G τ) t.heap; rw [ht]; exact hH.1⟩, hH.2.F ht⟩) hH.2.2.2 hd X.lk
end WR
/-- a method's contract out of the walk from its entry -/
theorem mk_I {l : Launch} {G : GT} {y : MethodName} {cc : ByteArray} {nL : Nat} {rt : FieldType} {fr lo : Nat} {av : List Value} {τ υ : Hp} {r : Int32} (hy : plainName y.cls = true) (hls : (lg_sl av).length ≤ nL)
    (body : ∀ (p : Program) (e : Env) (s : State) (m : MethodId) (args : Array Value) (below : List Frame) (meth : Method) (c : Code), Cx G p s m args meth c cc nL y.cls (some rt) → Hs G τ s s.heap [] → ∀ ls : Array Slot, lv_has ls nL (lv_args 0 av) → WI l G (rmG fr lo) p e s m args below meth c r υ s.heap [] (F0 m 0 ls [])) : MI l G y cc nL (some rt) fr lo av τ r υ := by
  refine Met.ofW (cc := cc) (maxL := nL) (ret := some rt) hy rfl ?_
  intro p e s m args below meth c s₁ B hml hv
  obtain ⟨rfl, hP, hK, hz, hn, ha⟩ := hv
  have hts := atoms_spec (ws := .code y cc nL (some rt) :: TBL) B.pre
  have hown : s.vm.findClass y.cls = some m.cls := findClass_of_methodNamed B.named
  have hl := lv_entry av (n := nL) hls
  rw [lg_entry_eq]
  exact body p e s m _ below meth c ⟨B.exec, B.bytes, hml, hown, fun w hw => hts w (List.mem_cons_of_mem _ hw), hK, hz, hn, ha, B.returns, B.notSynchronized⟩ ⟨hP, va_S.rf⟩ _ hl
theorem mk_V {l : Launch} {G : GT} {y : MethodName} {cc : ByteArray} {nL : Nat} {fr lo : Nat} {av : List Value} {τ υ : Hp} (hy : plainName y.cls = true) (hls : (lg_sl av).length ≤ nL)
    (body : ∀ (p : Program) (e : Env) (s : State) (m : MethodId) (args : Array Value) (below : List Frame) (meth : Method) (c : Code), Cx G p s m args meth c cc nL y.cls none → Hs G τ s s.heap [] → ∀ ls : Array Slot, lv_has ls nL (lv_args 0 av) → WV l G (rmG fr lo) p e s m args below meth c υ s.heap [] (F0 m 0 ls [])) : MV l G y cc nL fr lo av τ υ := by
  refine Met.ofW (cc := cc) (maxL := nL) (ret := none) hy rfl ?_
  intro p e s m args below meth c s₁ B hml hv
  obtain ⟨rfl, hP, hK, hz, hn, ha⟩ := hv
  have hts := atoms_spec (ws := .code y cc nL none :: TBL) B.pre
  have hown : s.vm.findClass y.cls = some m.cls := findClass_of_methodNamed B.named
  have hl := lv_entry av (n := nL) hls
  rw [lg_entry_eq]
  exact body p e s m _ below meth c ⟨B.exec, B.bytes, hml, hown, fun w hw => hts w (List.mem_cons_of_mem _ hw), hK, hz, hn, ha, B.returns, B.notSynchronized⟩ ⟨hP, va_S.rf⟩ _ hl
abbrev fs_0 (G : GT) : (Nat → Int32) → List Value := (fun r => [.ref (aG G 1), .ref (aG G 5), .ref (aG G 6), .ref (aG G 10), .ref (aG G 18), .ref (aG G 21), .ref (aG G 27), .ref (aG G 30), .ref (aG G 39)])
theorem fa_0_0 (G : GT) : FA G 0 10 0 RX10 TX10 9 (fs_0 G) (fun _ => .ref (aG G 1)) := ⟨by decide, fun _ => rfl, rfl, by decide, inT_X10, fun _ => rfl⟩
theorem fa_0_1 (G : GT) : FA G 0 10 1 RX10 TX10 9 (fs_0 G) (fun _ => .ref (aG G 5)) := ⟨by decide, fun _ => rfl, rfl, by decide, inT_X10, fun _ => rfl⟩
theorem fa_0_2 (G : GT) : FA G 0 10 2 RX10 TX10 9 (fs_0 G) (fun _ => .ref (aG G 6)) := ⟨by decide, fun _ => rfl, rfl, by decide, inT_X10, fun _ => rfl⟩
theorem fa_0_3 (G : GT) : FA G 0 10 3 RX10 TX10 9 (fs_0 G) (fun _ => .ref (aG G 10)) := ⟨by decide, fun _ => rfl, rfl, by decide, inT_X10, fun _ => rfl⟩
theorem fa_0_4 (G : GT) : FA G 0 10 4 RX10 TX10 9 (fs_0 G) (fun _ => .ref (aG G 18)) := ⟨by decide, fun _ => rfl, rfl, by decide, inT_X10, fun _ => rfl⟩
theorem fa_0_5 (G : GT) : FA G 0 10 5 RX10 TX10 9 (fs_0 G) (fun _ => .ref (aG G 21)) := ⟨by decide, fun _ => rfl, rfl, by decide, inT_X10, fun _ => rfl⟩
theorem fa_0_6 (G : GT) : FA G 0 10 6 RX10 TX10 9 (fs_0 G) (fun _ => .ref (aG G 27)) := ⟨by decide, fun _ => rfl, rfl, by decide, inT_X10, fun _ => rfl⟩
theorem fa_0_7 (G : GT) : FA G 0 10 7 RX10 TX10 9 (fs_0 G) (fun _ => .ref (aG G 30)) := ⟨by decide, fun _ => rfl, rfl, by decide, inT_X10, fun _ => rfl⟩
theorem fa_0_8 (G : GT) : FA G 0 10 8 RX10 TX10 9 (fs_0 G) (fun _ => .ref (aG G 39)) := ⟨by decide, fun _ => rfl, rfl, by decide, inT_X10, fun _ => rfl⟩
abbrev fs_1 (G : GT) : (Nat → Int32) → List Value := (fun r => [.ref (aG G 2), .ref (aG G 3), .ref (aG G 4), .int (r 3)])
theorem fa_1_0 (G : GT) : FA G 1 4 0 RX4 TX4 4 (fs_1 G) (fun _ => .ref (aG G 2)) := ⟨by decide, fun _ => rfl, rfl, by decide, inT_X4, fun _ => rfl⟩
theorem fa_1_1 (G : GT) : FA G 1 4 1 RX4 TX4 4 (fs_1 G) (fun _ => .ref (aG G 3)) := ⟨by decide, fun _ => rfl, rfl, by decide, inT_X4, fun _ => rfl⟩
theorem fa_1_2 (G : GT) : FA G 1 4 2 RX4 TX4 4 (fs_1 G) (fun _ => .ref (aG G 4)) := ⟨by decide, fun _ => rfl, rfl, by decide, inT_X4, fun _ => rfl⟩
theorem fa_1_3 (G : GT) : FA G 1 4 3 RX4 TX4 4 (fs_1 G) (fun r => .int (r 3)) := ⟨by decide, fun _ => rfl, rfl, by decide, inT_X4, fun _ => rfl⟩
theorem fp_1_3 (G : GT) : FP G 1 4 3 RX4 TX4 4 .int tyX4 (fs_1 G) := ⟨by decide, fun _ => rfl, rfl, by decide, inT_X4, fun _ _ => rfl, fun _ => Nat.le_of_ble_eq_true rfl, rfl, by decide +kernel, tyX4_ok, nmX4⟩
theorem aa_2 (G : GT) : AI G 2 8 := ⟨by decide, fun _ => rfl⟩
theorem aa_3 (G : GT) : AI G 3 64 := ⟨by decide, fun _ => rfl⟩
theorem aa_4 (G : GT) : AI G 4 64 := ⟨by decide, fun _ => rfl⟩
abbrev fs_5 (G : GT) : (Nat → Int32) → List Value := (fun r => [.int (r 0), .int (r 1), .int (r 2), .int (r 3), .int (r 4)])
theorem fa_5_0 (G : GT) : FA G 5 1 0 RX1 TX1 5 (fs_5 G) (fun r => .int (r 0)) := ⟨by decide, fun _ => rfl, rfl, by decide, inT_X1, fun _ => rfl⟩
theorem fp_5_0 (G : GT) : FP G 5 1 0 RX1 TX1 5 .int tyX1 (fs_5 G) := ⟨by decide, fun _ => rfl, rfl, by decide, inT_X1, fun _ _ => rfl, fun _ => Nat.le_of_ble_eq_true rfl, rfl, by decide +kernel, tyX1_ok, nmX1⟩
theorem fa_5_1 (G : GT) : FA G 5 1 1 RX1 TX1 5 (fs_5 G) (fun r => .int (r 1)) := ⟨by decide, fun _ => rfl, rfl, by decide, inT_X1, fun _ => rfl⟩
theorem fp_5_1 (G : GT) : FP G 5 1 1 RX1 TX1 5 .int tyX1 (fs_5 G) := ⟨by decide, fun _ => rfl, rfl, by decide, inT_X1, fun _ _ => rfl, fun _ => Nat.le_of_ble_eq_true rfl, rfl, by decide +kernel, tyX1_ok, nmX1⟩
theorem fa_5_2 (G : GT) : FA G 5 1 2 RX1 TX1 5 (fs_5 G) (fun r => .int (r 2)) := ⟨by decide, fun _ => rfl, rfl, by decide, inT_X1, fun _ => rfl⟩
theorem fp_5_2 (G : GT) : FP G 5 1 2 RX1 TX1 5 .boolean tyX1 (fs_5 G) := ⟨by decide, fun _ => rfl, rfl, by decide, inT_X1, fun _ _ => rfl, fun _ => Nat.le_of_ble_eq_true rfl, rfl, by decide +kernel, tyX1_ok, nmX1⟩
theorem fa_5_3 (G : GT) : FA G 5 1 3 RX1 TX1 5 (fs_5 G) (fun r => .int (r 3)) := ⟨by decide, fun _ => rfl, rfl, by decide, inT_X1, fun _ => rfl⟩
theorem fp_5_3 (G : GT) : FP G 5 1 3 RX1 TX1 5 .int tyX1 (fs_5 G) := ⟨by decide, fun _ => rfl, rfl, by decide, inT_X1, fun _ _ => rfl, fun _ => Nat.le_of_ble_eq_true rfl, rfl, by decide +kernel, tyX1_ok, nmX1⟩
theorem fa_5_4 (G : GT) : FA G 5 1 4 RX1 TX1 5 (fs_5 G) (fun r => .int (r 4)) := ⟨by decide, fun _ => rfl, rfl, by decide, inT_X1, fun _ => rfl⟩
theorem fp_5_4 (G : GT) : FP G 5 1 4 RX1 TX1 5 .int tyX1 (fs_5 G) := ⟨by decide, fun _ => rfl, rfl, by decide, inT_X1, fun _ _ => rfl, fun _ => Nat.le_of_ble_eq_true rfl, rfl, by decide +kernel, tyX1_ok, nmX1⟩
abbrev fs_6 (G : GT) : (Nat → Int32) → List Value := (fun r => [.ref (aG G 7), .ref (aG G 8), .ref (aG G 9), .int (r 3)])
theorem fa_6_0 (G : GT) : FA G 6 0 0 RX0 TX0 4 (fs_6 G) (fun _ => .ref (aG G 7)) := ⟨by decide, fun _ => rfl, rfl, by decide, inT_X0, fun _ => rfl⟩
theorem fa_6_1 (G : GT) : FA G 6 0 1 RX0 TX0 4 (fs_6 G) (fun _ => .ref (aG G 8)) := ⟨by decide, fun _ => rfl, rfl, by decide, inT_X0, fun _ => rfl⟩
theorem fa_6_2 (G : GT) : FA G 6 0 2 RX0 TX0 4 (fs_6 G) (fun _ => .ref (aG G 9)) := ⟨by decide, fun _ => rfl, rfl, by decide, inT_X0, fun _ => rfl⟩
theorem fa_6_3 (G : GT) : FA G 6 0 3 RX0 TX0 4 (fs_6 G) (fun r => .int (r 3)) := ⟨by decide, fun _ => rfl, rfl, by decide, inT_X0, fun _ => rfl⟩
theorem fp_6_3 (G : GT) : FP G 6 0 3 RX0 TX0 4 .int tyX0 (fs_6 G) := ⟨by decide, fun _ => rfl, rfl, by decide, inT_X0, fun _ _ => rfl, fun _ => Nat.le_of_ble_eq_true rfl, rfl, by decide +kernel, tyX0_ok, nmX0⟩
theorem aa_7 (G : GT) : AI G 7 300 := ⟨by decide, fun _ => rfl⟩
theorem aa_8 (G : GT) : AI G 8 300 := ⟨by decide, fun _ => rfl⟩
theorem aa_9 (G : GT) : AI G 9 300 := ⟨by decide, fun _ => rfl⟩
abbrev fs_10 (G : GT) : (Nat → Int32) → List Value := (fun r => [.ref (aG G 11), .ref (aG G 14), .ref (aG G 17), .int (r 3), .int (r 4), .int (r 5)])
theorem fa_10_0 (G : GT) : FA G 10 6 0 RX6 TX6 6 (fs_10 G) (fun _ => .ref (aG G 11)) := ⟨by decide, fun _ => rfl, rfl, by decide, inT_X6, fun _ => rfl⟩
theorem fa_10_1 (G : GT) : FA G 10 6 1 RX6 TX6 6 (fs_10 G) (fun _ => .ref (aG G 14)) := ⟨by decide, fun _ => rfl, rfl, by decide, inT_X6, fun _ => rfl⟩
theorem fa_10_2 (G : GT) : FA G 10 6 2 RX6 TX6 6 (fs_10 G) (fun _ => .ref (aG G 17)) := ⟨by decide, fun _ => rfl, rfl, by decide, inT_X6, fun _ => rfl⟩
theorem fa_10_3 (G : GT) : FA G 10 6 3 RX6 TX6 6 (fs_10 G) (fun r => .int (r 3)) := ⟨by decide, fun _ => rfl, rfl, by decide, inT_X6, fun _ => rfl⟩
theorem fp_10_3 (G : GT) : FP G 10 6 3 RX6 TX6 6 .int tyX6 (fs_10 G) := ⟨by decide, fun _ => rfl, rfl, by decide, inT_X6, fun _ _ => rfl, fun _ => Nat.le_of_ble_eq_true rfl, rfl, by decide +kernel, tyX6_ok, nmX6⟩
theorem fa_10_4 (G : GT) : FA G 10 6 4 RX6 TX6 6 (fs_10 G) (fun r => .int (r 4)) := ⟨by decide, fun _ => rfl, rfl, by decide, inT_X6, fun _ => rfl⟩
theorem fp_10_4 (G : GT) : FP G 10 6 4 RX6 TX6 6 .int tyX6 (fs_10 G) := ⟨by decide, fun _ => rfl, rfl, by decide, inT_X6, fun _ _ => rfl, fun _ => Nat.le_of_ble_eq_true rfl, rfl, by decide +kernel, tyX6_ok, nmX6⟩
theorem fa_10_5 (G : GT) : FA G 10 6 5 RX6 TX6 6 (fs_10 G) (fun r => .int (r 5)) := ⟨by decide, fun _ => rfl, rfl, by decide, inT_X6, fun _ => rfl⟩
theorem fp_10_5 (G : GT) : FP G 10 6 5 RX6 TX6 6 .boolean tyX6 (fs_10 G) := ⟨by decide, fun _ => rfl, rfl, by decide, inT_X6, fun _ _ => rfl, fun _ => Nat.le_of_ble_eq_true rfl, rfl, by decide +kernel, tyX6_ok, nmX6⟩
abbrev fs_11 (G : GT) : (Nat → Int32) → List Value := (fun r => [.ref (aG G 12), .ref (aG G 13), .int (r 2), .int (r 3), .int (r 4)])
theorem fa_11_0 (G : GT) : FA G 11 2 0 RX2 TX2 5 (fs_11 G) (fun _ => .ref (aG G 12)) := ⟨by decide, fun _ => rfl, rfl, by decide, inT_X2, fun _ => rfl⟩
theorem fa_11_1 (G : GT) : FA G 11 2 1 RX2 TX2 5 (fs_11 G) (fun _ => .ref (aG G 13)) := ⟨by decide, fun _ => rfl, rfl, by decide, inT_X2, fun _ => rfl⟩
theorem fa_11_2 (G : GT) : FA G 11 2 2 RX2 TX2 5 (fs_11 G) (fun r => .int (r 2)) := ⟨by decide, fun _ => rfl, rfl, by decide, inT_X2, fun _ => rfl⟩
theorem fp_11_2 (G : GT) : FP G 11 2 2 RX2 TX2 5 .int tyX2 (fs_11 G) := ⟨by decide, fun _ => rfl, rfl, by decide, inT_X2, fun _ _ => rfl, fun _ => Nat.le_of_ble_eq_true rfl, rfl, by decide +kernel, tyX2_ok, nmX2⟩
theorem fa_11_3 (G : GT) : FA G 11 2 3 RX2 TX2 5 (fs_11 G) (fun r => .int (r 3)) := ⟨by decide, fun _ => rfl, rfl, by decide, inT_X2, fun _ => rfl⟩
theorem fp_11_3 (G : GT) : FP G 11 2 3 RX2 TX2 5 .int tyX2 (fs_11 G) := ⟨by decide, fun _ => rfl, rfl, by decide, inT_X2, fun _ _ => rfl, fun _ => Nat.le_of_ble_eq_true rfl, rfl, by decide +kernel, tyX2_ok, nmX2⟩
theorem fa_11_4 (G : GT) : FA G 11 2 4 RX2 TX2 5 (fs_11 G) (fun r => .int (r 4)) := ⟨by decide, fun _ => rfl, rfl, by decide, inT_X2, fun _ => rfl⟩
theorem fp_11_4 (G : GT) : FP G 11 2 4 RX2 TX2 5 .boolean tyX2 (fs_11 G) := ⟨by decide, fun _ => rfl, rfl, by decide, inT_X2, fun _ _ => rfl, fun _ => Nat.le_of_ble_eq_true rfl, rfl, by decide +kernel, tyX2_ok, nmX2⟩
theorem aa_12 (G : GT) : AI G 12 8 := ⟨by decide, fun _ => rfl⟩
theorem aa_13 (G : GT) : AI G 13 64 := ⟨by decide, fun _ => rfl⟩
abbrev fs_14 (G : GT) : (Nat → Int32) → List Value := (fun r => [.ref (aG G 15), .ref (aG G 16)])
theorem fa_14_0 (G : GT) : FA G 14 3 0 RX3 TX3 2 (fs_14 G) (fun _ => .ref (aG G 15)) := ⟨by decide, fun _ => rfl, rfl, by decide, inT_X3, fun _ => rfl⟩
theorem fa_14_1 (G : GT) : FA G 14 3 1 RX3 TX3 2 (fs_14 G) (fun _ => .ref (aG G 16)) := ⟨by decide, fun _ => rfl, rfl, by decide, inT_X3, fun _ => rfl⟩
theorem aa_15 (G : GT) : AI G 15 64 := ⟨by decide, fun _ => rfl⟩
theorem aa_16 (G : GT) : AI G 16 256 := ⟨by decide, fun _ => rfl⟩
theorem aa_17 (G : GT) : AI G 17 224 := ⟨by decide, fun _ => rfl⟩
abbrev fs_18 (G : GT) : (Nat → Int32) → List Value := (fun r => [.ref (aG G 19), .ref (aG G 20)])
theorem fa_18_0 (G : GT) : FA G 18 3 0 RX3 TX3 2 (fs_18 G) (fun _ => .ref (aG G 19)) := ⟨by decide, fun _ => rfl, rfl, by decide, inT_X3, fun _ => rfl⟩
theorem fa_18_1 (G : GT) : FA G 18 3 1 RX3 TX3 2 (fs_18 G) (fun _ => .ref (aG G 20)) := ⟨by decide, fun _ => rfl, rfl, by decide, inT_X3, fun _ => rfl⟩
theorem aa_19 (G : GT) : AI G 19 64 := ⟨by decide, fun _ => rfl⟩
theorem aa_20 (G : GT) : AI G 20 256 := ⟨by decide, fun _ => rfl⟩
abbrev fs_21 (G : GT) : (Nat → Int32) → List Value := (fun r => [.ref (aG G 22), .ref (aG G 25), .ref (aG G 26), .int (r 3), .int (r 4)])
theorem fa_21_0 (G : GT) : FA G 21 7 0 RX7 TX7 5 (fs_21 G) (fun _ => .ref (aG G 22)) := ⟨by decide, fun _ => rfl, rfl, by decide, inT_X7, fun _ => rfl⟩
theorem fa_21_1 (G : GT) : FA G 21 7 1 RX7 TX7 5 (fs_21 G) (fun _ => .ref (aG G 25)) := ⟨by decide, fun _ => rfl, rfl, by decide, inT_X7, fun _ => rfl⟩
theorem fa_21_2 (G : GT) : FA G 21 7 2 RX7 TX7 5 (fs_21 G) (fun _ => .ref (aG G 26)) := ⟨by decide, fun _ => rfl, rfl, by decide, inT_X7, fun _ => rfl⟩
theorem fa_21_3 (G : GT) : FA G 21 7 3 RX7 TX7 5 (fs_21 G) (fun r => .int (r 3)) := ⟨by decide, fun _ => rfl, rfl, by decide, inT_X7, fun _ => rfl⟩
theorem fp_21_3 (G : GT) : FP G 21 7 3 RX7 TX7 5 .int tyX7 (fs_21 G) := ⟨by decide, fun _ => rfl, rfl, by decide, inT_X7, fun _ _ => rfl, fun _ => Nat.le_of_ble_eq_true rfl, rfl, by decide +kernel, tyX7_ok, nmX7⟩
theorem fa_21_4 (G : GT) : FA G 21 7 4 RX7 TX7 5 (fs_21 G) (fun r => .int (r 4)) := ⟨by decide, fun _ => rfl, rfl, by decide, inT_X7, fun _ => rfl⟩
theorem fp_21_4 (G : GT) : FP G 21 7 4 RX7 TX7 5 .int tyX7 (fs_21 G) := ⟨by decide, fun _ => rfl, rfl, by decide, inT_X7, fun _ _ => rfl, fun _ => Nat.le_of_ble_eq_true rfl, rfl, by decide +kernel, tyX7_ok, nmX7⟩
abbrev fs_22 (G : GT) : (Nat → Int32) → List Value := (fun r => [.ref (aG G 23), .ref (aG G 24), .int (r 2), .int (r 3), .int (r 4)])
theorem fa_22_0 (G : GT) : FA G 22 2 0 RX2 TX2 5 (fs_22 G) (fun _ => .ref (aG G 23)) := ⟨by decide, fun _ => rfl, rfl, by decide, inT_X2, fun _ => rfl⟩
theorem fa_22_1 (G : GT) : FA G 22 2 1 RX2 TX2 5 (fs_22 G) (fun _ => .ref (aG G 24)) := ⟨by decide, fun _ => rfl, rfl, by decide, inT_X2, fun _ => rfl⟩
theorem fa_22_2 (G : GT) : FA G 22 2 2 RX2 TX2 5 (fs_22 G) (fun r => .int (r 2)) := ⟨by decide, fun _ => rfl, rfl, by decide, inT_X2, fun _ => rfl⟩
theorem fp_22_2 (G : GT) : FP G 22 2 2 RX2 TX2 5 .int tyX2 (fs_22 G) := ⟨by decide, fun _ => rfl, rfl, by decide, inT_X2, fun _ _ => rfl, fun _ => Nat.le_of_ble_eq_true rfl, rfl, by decide +kernel, tyX2_ok, nmX2⟩
theorem fa_22_3 (G : GT) : FA G 22 2 3 RX2 TX2 5 (fs_22 G) (fun r => .int (r 3)) := ⟨by decide, fun _ => rfl, rfl, by decide, inT_X2, fun _ => rfl⟩
theorem fp_22_3 (G : GT) : FP G 22 2 3 RX2 TX2 5 .int tyX2 (fs_22 G) := ⟨by decide, fun _ => rfl, rfl, by decide, inT_X2, fun _ _ => rfl, fun _ => Nat.le_of_ble_eq_true rfl, rfl, by decide +kernel, tyX2_ok, nmX2⟩
theorem fa_22_4 (G : GT) : FA G 22 2 4 RX2 TX2 5 (fs_22 G) (fun r => .int (r 4)) := ⟨by decide, fun _ => rfl, rfl, by decide, inT_X2, fun _ => rfl⟩
theorem fp_22_4 (G : GT) : FP G 22 2 4 RX2 TX2 5 .boolean tyX2 (fs_22 G) := ⟨by decide, fun _ => rfl, rfl, by decide, inT_X2, fun _ _ => rfl, fun _ => Nat.le_of_ble_eq_true rfl, rfl, by decide +kernel, tyX2_ok, nmX2⟩
theorem aa_23 (G : GT) : AI G 23 8 := ⟨by decide, fun _ => rfl⟩
theorem aa_24 (G : GT) : AI G 24 64 := ⟨by decide, fun _ => rfl⟩
theorem aa_25 (G : GT) : AI G 25 8 := ⟨by decide, fun _ => rfl⟩
theorem aa_26 (G : GT) : AI G 26 8 := ⟨by decide, fun _ => rfl⟩
abbrev fs_27 (G : GT) : (Nat → Int32) → List Value := (fun r => [.ref (aG G 28), .ref (aG G 29), .int (r 2)])
theorem fa_27_0 (G : GT) : FA G 27 9 0 RX9 TX9 3 (fs_27 G) (fun _ => .ref (aG G 28)) := ⟨by decide, fun _ => rfl, rfl, by decide, inT_X9, fun _ => rfl⟩
theorem fa_27_1 (G : GT) : FA G 27 9 1 RX9 TX9 3 (fs_27 G) (fun _ => .ref (aG G 29)) := ⟨by decide, fun _ => rfl, rfl, by decide, inT_X9, fun _ => rfl⟩
theorem fa_27_2 (G : GT) : FA G 27 9 2 RX9 TX9 3 (fs_27 G) (fun r => .int (r 2)) := ⟨by decide, fun _ => rfl, rfl, by decide, inT_X9, fun _ => rfl⟩
theorem fp_27_2 (G : GT) : FP G 27 9 2 RX9 TX9 3 .int tyX9 (fs_27 G) := ⟨by decide, fun _ => rfl, rfl, by decide, inT_X9, fun _ _ => rfl, fun _ => Nat.le_of_ble_eq_true rfl, rfl, by decide +kernel, tyX9_ok, nmX9⟩
theorem aa_28 (G : GT) : AI G 28 8 := ⟨by decide, fun _ => rfl⟩
theorem aa_29 (G : GT) : AI G 29 8 := ⟨by decide, fun _ => rfl⟩
abbrev fs_30 (G : GT) : (Nat → Int32) → List Value := (fun r => [.ref (aG G 31), .ref (aG G 34), .ref (aG G 35), .ref (aG G 36), .ref (aG G 37), .int (r 5), .ref (aG G 38), .int (r 7)])
theorem fa_30_0 (G : GT) : FA G 30 8 0 RX8 TX8 8 (fs_30 G) (fun _ => .ref (aG G 31)) := ⟨by decide, fun _ => rfl, rfl, by decide, inT_X8, fun _ => rfl⟩
theorem fa_30_1 (G : GT) : FA G 30 8 1 RX8 TX8 8 (fs_30 G) (fun _ => .ref (aG G 34)) := ⟨by decide, fun _ => rfl, rfl, by decide, inT_X8, fun _ => rfl⟩
theorem fa_30_2 (G : GT) : FA G 30 8 2 RX8 TX8 8 (fs_30 G) (fun _ => .ref (aG G 35)) := ⟨by decide, fun _ => rfl, rfl, by decide, inT_X8, fun _ => rfl⟩
theorem fa_30_3 (G : GT) : FA G 30 8 3 RX8 TX8 8 (fs_30 G) (fun _ => .ref (aG G 36)) := ⟨by decide, fun _ => rfl, rfl, by decide, inT_X8, fun _ => rfl⟩
theorem fa_30_4 (G : GT) : FA G 30 8 4 RX8 TX8 8 (fs_30 G) (fun _ => .ref (aG G 37)) := ⟨by decide, fun _ => rfl, rfl, by decide, inT_X8, fun _ => rfl⟩
theorem fa_30_5 (G : GT) : FA G 30 8 5 RX8 TX8 8 (fs_30 G) (fun r => .int (r 5)) := ⟨by decide, fun _ => rfl, rfl, by decide, inT_X8, fun _ => rfl⟩
theorem fp_30_5 (G : GT) : FP G 30 8 5 RX8 TX8 8 .int tyX8 (fs_30 G) := ⟨by decide, fun _ => rfl, rfl, by decide, inT_X8, fun _ _ => rfl, fun _ => Nat.le_of_ble_eq_true rfl, rfl, by decide +kernel, tyX8_ok, nmX8⟩
theorem fa_30_6 (G : GT) : FA G 30 8 6 RX8 TX8 8 (fs_30 G) (fun _ => .ref (aG G 38)) := ⟨by decide, fun _ => rfl, rfl, by decide, inT_X8, fun _ => rfl⟩
theorem fa_30_7 (G : GT) : FA G 30 8 7 RX8 TX8 8 (fs_30 G) (fun r => .int (r 7)) := ⟨by decide, fun _ => rfl, rfl, by decide, inT_X8, fun _ => rfl⟩
theorem fp_30_7 (G : GT) : FP G 30 8 7 RX8 TX8 8 .int tyX8 (fs_30 G) := ⟨by decide, fun _ => rfl, rfl, by decide, inT_X8, fun _ _ => rfl, fun _ => Nat.le_of_ble_eq_true rfl, rfl, by decide +kernel, tyX8_ok, nmX8⟩
abbrev fs_31 (G : GT) : (Nat → Int32) → List Value := (fun r => [.ref (aG G 32), .ref (aG G 33), .int (r 2)])
theorem fa_31_0 (G : GT) : FA G 31 9 0 RX9 TX9 3 (fs_31 G) (fun _ => .ref (aG G 32)) := ⟨by decide, fun _ => rfl, rfl, by decide, inT_X9, fun _ => rfl⟩
theorem fa_31_1 (G : GT) : FA G 31 9 1 RX9 TX9 3 (fs_31 G) (fun _ => .ref (aG G 33)) := ⟨by decide, fun _ => rfl, rfl, by decide, inT_X9, fun _ => rfl⟩
theorem fa_31_2 (G : GT) : FA G 31 9 2 RX9 TX9 3 (fs_31 G) (fun r => .int (r 2)) := ⟨by decide, fun _ => rfl, rfl, by decide, inT_X9, fun _ => rfl⟩
theorem fp_31_2 (G : GT) : FP G 31 9 2 RX9 TX9 3 .int tyX9 (fs_31 G) := ⟨by decide, fun _ => rfl, rfl, by decide, inT_X9, fun _ _ => rfl, fun _ => Nat.le_of_ble_eq_true rfl, rfl, by decide +kernel, tyX9_ok, nmX9⟩
theorem aa_32 (G : GT) : AI G 32 8 := ⟨by decide, fun _ => rfl⟩
theorem aa_33 (G : GT) : AI G 33 8 := ⟨by decide, fun _ => rfl⟩
theorem aa_34 (G : GT) : AI G 34 8 := ⟨by decide, fun _ => rfl⟩
theorem aa_35 (G : GT) : AI G 35 12 := ⟨by decide, fun _ => rfl⟩
theorem aa_36 (G : GT) : AI G 36 12 := ⟨by decide, fun _ => rfl⟩
theorem aa_37 (G : GT) : AI G 37 12 := ⟨by decide, fun _ => rfl⟩
theorem aa_38 (G : GT) : AI G 38 12 := ⟨by decide, fun _ => rfl⟩
abbrev fs_39 (G : GT) : (Nat → Int32) → List Value := (fun r => [.ref (aG G 40), .ref (aG G 41), .int (r 2)])
theorem fa_39_0 (G : GT) : FA G 39 5 0 RX5 TX5 3 (fs_39 G) (fun _ => .ref (aG G 40)) := ⟨by decide, fun _ => rfl, rfl, by decide, inT_X5, fun _ => rfl⟩
theorem fa_39_1 (G : GT) : FA G 39 5 1 RX5 TX5 3 (fs_39 G) (fun _ => .ref (aG G 41)) := ⟨by decide, fun _ => rfl, rfl, by decide, inT_X5, fun _ => rfl⟩
theorem fa_39_2 (G : GT) : FA G 39 5 2 RX5 TX5 3 (fs_39 G) (fun r => .int (r 2)) := ⟨by decide, fun _ => rfl, rfl, by decide, inT_X5, fun _ => rfl⟩
theorem fp_39_2 (G : GT) : FP G 39 5 2 RX5 TX5 3 .int tyX5 (fs_39 G) := ⟨by decide, fun _ => rfl, rfl, by decide, inT_X5, fun _ _ => rfl, fun _ => Nat.le_of_ble_eq_true rfl, rfl, by decide +kernel, tyX5_ok, nmX5⟩
theorem aa_40 (G : GT) : AI G 40 300 := ⟨by decide, fun _ => rfl⟩
theorem aa_41 (G : GT) : AI G 41 300 := ⟨by decide, fun _ => rfl⟩
abbrev fs_42 (G : GT) : (Nat → Int32) → List Value := (fun r => [.int (r 0), .int (r 1), .ref (aG G 43), .ref (aG G 44), .int (r 4), .ref (aG G 45), .ref (aG G 46), .ref (aG G 47), .ref (aG G 48), .ref (aG G 49), .int (r 10), .int (r 11), .int (r 12), .int (r 13), .int (r 14), .ref (aG G 50), .ref (aG G 51), .ref (aG G 52), .ref (aG G 53), .int (r 19), .int (r 20), .int (r 21), .ref (aG G 54), .ref (aG G 55), .ref (aG G 56), .ref (aG G 57), .int (r 26), .ref (aG G 58), .int (r 28), .ref (aG G 59), .ref (aG G 60), .ref (aG G 61), .int (r 32), .ref (aG G 62), .int (r 34), .ref (aG G 63), .ref (aG G 64), .ref (aG G 65), .int (r 38)])
theorem fa_42_0 (G : GT) : FA G 42 11 0 RX11 TX11 39 (fs_42 G) (fun r => .int (r 0)) := ⟨by decide, fun _ => rfl, rfl, by decide, inT_X11, fun _ => rfl⟩
theorem fp_42_0 (G : GT) : FP G 42 11 0 RX11 TX11 39 .int tyX11 (fs_42 G) := ⟨by decide, fun _ => rfl, rfl, by decide, inT_X11, fun _ _ => rfl, fun _ => Nat.le_of_ble_eq_true rfl, rfl, by decide +kernel, tyX11_ok, nmX11⟩
theorem fa_42_1 (G : GT) : FA G 42 11 1 RX11 TX11 39 (fs_42 G) (fun r => .int (r 1)) := ⟨by decide, fun _ => rfl, rfl, by decide, inT_X11, fun _ => rfl⟩
theorem fp_42_1 (G : GT) : FP G 42 11 1 RX11 TX11 39 .int tyX11 (fs_42 G) := ⟨by decide, fun _ => rfl, rfl, by decide, inT_X11, fun _ _ => rfl, fun _ => Nat.le_of_ble_eq_true rfl, rfl, by decide +kernel, tyX11_ok, nmX11⟩
theorem fa_42_2 (G : GT) : FA G 42 11 2 RX11 TX11 39 (fs_42 G) (fun _ => .ref (aG G 43)) := ⟨by decide, fun _ => rfl, rfl, by decide, inT_X11, fun _ => rfl⟩
theorem fa_42_3 (G : GT) : FA G 42 11 3 RX11 TX11 39 (fs_42 G) (fun _ => .ref (aG G 44)) := ⟨by decide, fun _ => rfl, rfl, by decide, inT_X11, fun _ => rfl⟩
theorem fa_42_4 (G : GT) : FA G 42 11 4 RX11 TX11 39 (fs_42 G) (fun r => .int (r 4)) := ⟨by decide, fun _ => rfl, rfl, by decide, inT_X11, fun _ => rfl⟩
theorem fp_42_4 (G : GT) : FP G 42 11 4 RX11 TX11 39 .int tyX11 (fs_42 G) := ⟨by decide, fun _ => rfl, rfl, by decide, inT_X11, fun _ _ => rfl, fun _ => Nat.le_of_ble_eq_true rfl, rfl, by decide +kernel, tyX11_ok, nmX11⟩
theorem fa_42_5 (G : GT) : FA G 42 11 5 RX11 TX11 39 (fs_42 G) (fun _ => .ref (aG G 45)) := ⟨by decide, fun _ => rfl, rfl, by decide, inT_X11, fun _ => rfl⟩
theorem fa_42_6 (G : GT) : FA G 42 11 6 RX11 TX11 39 (fs_42 G) (fun _ => .ref (aG G 46)) := ⟨by decide, fun _ => rfl, rfl, by decide, inT_X11, fun _ => rfl⟩
theorem fa_42_7 (G : GT) : FA G 42 11 7 RX11 TX11 39 (fs_42 G) (fun _ => .ref (aG G 47)) := ⟨by decide, fun _ => rfl, rfl, by decide, inT_X11, fun _ => rfl⟩
theorem fa_42_8 (G : GT) : FA G 42 11 8 RX11 TX11 39 (fs_42 G) (fun _ => .ref (aG G 48)) := ⟨by decide, fun _ => rfl, rfl, by decide, inT_X11, fun _ => rfl⟩
theorem fa_42_9 (G : GT) : FA G 42 11 9 RX11 TX11 39 (fs_42 G) (fun _ => .ref (aG G 49)) := ⟨by decide, fun _ => rfl, rfl, by decide, inT_X11, fun _ => rfl⟩
theorem fa_42_10 (G : GT) : FA G 42 11 10 RX11 TX11 39 (fs_42 G) (fun r => .int (r 10)) := ⟨by decide, fun _ => rfl, rfl, by decide, inT_X11, fun _ => rfl⟩
theorem fp_42_10 (G : GT) : FP G 42 11 10 RX11 TX11 39 .int tyX11 (fs_42 G) := ⟨by decide, fun _ => rfl, rfl, by decide, inT_X11, fun _ _ => rfl, fun _ => Nat.le_of_ble_eq_true rfl, rfl, by decide +kernel, tyX11_ok, nmX11⟩
theorem fa_42_11 (G : GT) : FA G 42 11 11 RX11 TX11 39 (fs_42 G) (fun r => .int (r 11)) := ⟨by decide, fun _ => rfl, rfl, by decide, inT_X11, fun _ => rfl⟩
theorem fp_42_11 (G : GT) : FP G 42 11 11 RX11 TX11 39 .int tyX11 (fs_42 G) := ⟨by decide, fun _ => rfl, rfl, by decide, inT_X11, fun _ _ => rfl, fun _ => Nat.le_of_ble_eq_true rfl, rfl, by decide +kernel, tyX11_ok, nmX11⟩
theorem fa_42_12 (G : GT) : FA G 42 11 12 RX11 TX11 39 (fs_42 G) (fun r => .int (r 12)) := ⟨by decide, fun _ => rfl, rfl, by decide, inT_X11, fun _ => rfl⟩
theorem fp_42_12 (G : GT) : FP G 42 11 12 RX11 TX11 39 .boolean tyX11 (fs_42 G) := ⟨by decide, fun _ => rfl, rfl, by decide, inT_X11, fun _ _ => rfl, fun _ => Nat.le_of_ble_eq_true rfl, rfl, by decide +kernel, tyX11_ok, nmX11⟩
theorem fa_42_13 (G : GT) : FA G 42 11 13 RX11 TX11 39 (fs_42 G) (fun r => .int (r 13)) := ⟨by decide, fun _ => rfl, rfl, by decide, inT_X11, fun _ => rfl⟩
theorem fp_42_13 (G : GT) : FP G 42 11 13 RX11 TX11 39 .int tyX11 (fs_42 G) := ⟨by decide, fun _ => rfl, rfl, by decide, inT_X11, fun _ _ => rfl, fun _ => Nat.le_of_ble_eq_true rfl, rfl, by decide +kernel, tyX11_ok, nmX11⟩
theorem fa_42_14 (G : GT) : FA G 42 11 14 RX11 TX11 39 (fs_42 G) (fun r => .int (r 14)) := ⟨by decide, fun _ => rfl, rfl, by decide, inT_X11, fun _ => rfl⟩
theorem fp_42_14 (G : GT) : FP G 42 11 14 RX11 TX11 39 .int tyX11 (fs_42 G) := ⟨by decide, fun _ => rfl, rfl, by decide, inT_X11, fun _ _ => rfl, fun _ => Nat.le_of_ble_eq_true rfl, rfl, by decide +kernel, tyX11_ok, nmX11⟩
theorem fa_42_15 (G : GT) : FA G 42 11 15 RX11 TX11 39 (fs_42 G) (fun _ => .ref (aG G 50)) := ⟨by decide, fun _ => rfl, rfl, by decide, inT_X11, fun _ => rfl⟩
theorem fa_42_16 (G : GT) : FA G 42 11 16 RX11 TX11 39 (fs_42 G) (fun _ => .ref (aG G 51)) := ⟨by decide, fun _ => rfl, rfl, by decide, inT_X11, fun _ => rfl⟩
theorem fa_42_17 (G : GT) : FA G 42 11 17 RX11 TX11 39 (fs_42 G) (fun _ => .ref (aG G 52)) := ⟨by decide, fun _ => rfl, rfl, by decide, inT_X11, fun _ => rfl⟩
theorem fa_42_18 (G : GT) : FA G 42 11 18 RX11 TX11 39 (fs_42 G) (fun _ => .ref (aG G 53)) := ⟨by decide, fun _ => rfl, rfl, by decide, inT_X11, fun _ => rfl⟩
theorem fa_42_19 (G : GT) : FA G 42 11 19 RX11 TX11 39 (fs_42 G) (fun r => .int (r 19)) := ⟨by decide, fun _ => rfl, rfl, by decide, inT_X11, fun _ => rfl⟩
theorem fp_42_19 (G : GT) : FP G 42 11 19 RX11 TX11 39 .boolean tyX11 (fs_42 G) := ⟨by decide, fun _ => rfl, rfl, by decide, inT_X11, fun _ _ => rfl, fun _ => Nat.le_of_ble_eq_true rfl, rfl, by decide +kernel, tyX11_ok, nmX11⟩
theorem fa_42_20 (G : GT) : FA G 42 11 20 RX11 TX11 39 (fs_42 G) (fun r => .int (r 20)) := ⟨by decide, fun _ => rfl, rfl, by decide, inT_X11, fun _ => rfl⟩
theorem fp_42_20 (G : GT) : FP G 42 11 20 RX11 TX11 39 .int tyX11 (fs_42 G) := ⟨by decide, fun _ => rfl, rfl, by decide, inT_X11, fun _ _ => rfl, fun _ => Nat.le_of_ble_eq_true rfl, rfl, by decide +kernel, tyX11_ok, nmX11⟩
theorem fa_42_21 (G : GT) : FA G 42 11 21 RX11 TX11 39 (fs_42 G) (fun r => .int (r 21)) := ⟨by decide, fun _ => rfl, rfl, by decide, inT_X11, fun _ => rfl⟩
theorem fp_42_21 (G : GT) : FP G 42 11 21 RX11 TX11 39 .int tyX11 (fs_42 G) := ⟨by decide, fun _ => rfl, rfl, by decide, inT_X11, fun _ _ => rfl, fun _ => Nat.le_of_ble_eq_true rfl, rfl, by decide +kernel, tyX11_ok, nmX11⟩
theorem fa_42_22 (G : GT) : FA G 42 11 22 RX11 TX11 39 (fs_42 G) (fun _ => .ref (aG G 54)) := ⟨by decide, fun _ => rfl, rfl, by decide, inT_X11, fun _ => rfl⟩
theorem fa_42_23 (G : GT) : FA G 42 11 23 RX11 TX11 39 (fs_42 G) (fun _ => .ref (aG G 55)) := ⟨by decide, fun _ => rfl, rfl, by decide, inT_X11, fun _ => rfl⟩
theorem fa_42_24 (G : GT) : FA G 42 11 24 RX11 TX11 39 (fs_42 G) (fun _ => .ref (aG G 56)) := ⟨by decide, fun _ => rfl, rfl, by decide, inT_X11, fun _ => rfl⟩
theorem fa_42_25 (G : GT) : FA G 42 11 25 RX11 TX11 39 (fs_42 G) (fun _ => .ref (aG G 57)) := ⟨by decide, fun _ => rfl, rfl, by decide, inT_X11, fun _ => rfl⟩
theorem fa_42_26 (G : GT) : FA G 42 11 26 RX11 TX11 39 (fs_42 G) (fun r => .int (r 26)) := ⟨by decide, fun _ => rfl, rfl, by decide, inT_X11, fun _ => rfl⟩
theorem fp_42_26 (G : GT) : FP G 42 11 26 RX11 TX11 39 .int tyX11 (fs_42 G) := ⟨by decide, fun _ => rfl, rfl, by decide, inT_X11, fun _ _ => rfl, fun _ => Nat.le_of_ble_eq_true rfl, rfl, by decide +kernel, tyX11_ok, nmX11⟩
theorem fa_42_27 (G : GT) : FA G 42 11 27 RX11 TX11 39 (fs_42 G) (fun _ => .ref (aG G 58)) := ⟨by decide, fun _ => rfl, rfl, by decide, inT_X11, fun _ => rfl⟩
theorem fa_42_28 (G : GT) : FA G 42 11 28 RX11 TX11 39 (fs_42 G) (fun r => .int (r 28)) := ⟨by decide, fun _ => rfl, rfl, by decide, inT_X11, fun _ => rfl⟩
theorem fp_42_28 (G : GT) : FP G 42 11 28 RX11 TX11 39 .int tyX11 (fs_42 G) := ⟨by decide, fun _ => rfl, rfl, by decide, inT_X11, fun _ _ => rfl, fun _ => Nat.le_of_ble_eq_true rfl, rfl, by decide +kernel, tyX11_ok, nmX11⟩
theorem fa_42_29 (G : GT) : FA G 42 11 29 RX11 TX11 39 (fs_42 G) (fun _ => .ref (aG G 59)) := ⟨by decide, fun _ => rfl, rfl, by decide, inT_X11, fun _ => rfl⟩
theorem fa_42_30 (G : GT) : FA G 42 11 30 RX11 TX11 39 (fs_42 G) (fun _ => .ref (aG G 60)) := ⟨by decide, fun _ => rfl, rfl, by decide, inT_X11, fun _ => rfl⟩
theorem fa_42_31 (G : GT) : FA G 42 11 31 RX11 TX11 39 (fs_42 G) (fun _ => .ref (aG G 61)) := ⟨by decide, fun _ => rfl, rfl, by decide, inT_X11, fun _ => rfl⟩
theorem fa_42_32 (G : GT) : FA G 42 11 32 RX11 TX11 39 (fs_42 G) (fun r => .int (r 32)) := ⟨by decide, fun _ => rfl, rfl, by decide, inT_X11, fun _ => rfl⟩
theorem fp_42_32 (G : GT) : FP G 42 11 32 RX11 TX11 39 .int tyX11 (fs_42 G) := ⟨by decide, fun _ => rfl, rfl, by decide, inT_X11, fun _ _ => rfl, fun _ => Nat.le_of_ble_eq_true rfl, rfl, by decide +kernel, tyX11_ok, nmX11⟩
theorem fa_42_33 (G : GT) : FA G 42 11 33 RX11 TX11 39 (fs_42 G) (fun _ => .ref (aG G 62)) := ⟨by decide, fun _ => rfl, rfl, by decide, inT_X11, fun _ => rfl⟩
theorem fa_42_34 (G : GT) : FA G 42 11 34 RX11 TX11 39 (fs_42 G) (fun r => .int (r 34)) := ⟨by decide, fun _ => rfl, rfl, by decide, inT_X11, fun _ => rfl⟩
theorem fp_42_34 (G : GT) : FP G 42 11 34 RX11 TX11 39 .int tyX11 (fs_42 G) := ⟨by decide, fun _ => rfl, rfl, by decide, inT_X11, fun _ _ => rfl, fun _ => Nat.le_of_ble_eq_true rfl, rfl, by decide +kernel, tyX11_ok, nmX11⟩
theorem fa_42_35 (G : GT) : FA G 42 11 35 RX11 TX11 39 (fs_42 G) (fun _ => .ref (aG G 63)) := ⟨by decide, fun _ => rfl, rfl, by decide, inT_X11, fun _ => rfl⟩
theorem fa_42_36 (G : GT) : FA G 42 11 36 RX11 TX11 39 (fs_42 G) (fun _ => .ref (aG G 64)) := ⟨by decide, fun _ => rfl, rfl, by decide, inT_X11, fun _ => rfl⟩
theorem fa_42_37 (G : GT) : FA G 42 11 37 RX11 TX11 39 (fs_42 G) (fun _ => .ref (aG G 65)) := ⟨by decide, fun _ => rfl, rfl, by decide, inT_X11, fun _ => rfl⟩
theorem fa_42_38 (G : GT) : FA G 42 11 38 RX11 TX11 39 (fs_42 G) (fun r => .int (r 38)) := ⟨by decide, fun _ => rfl, rfl, by decide, inT_X11, fun _ => rfl⟩
theorem fp_42_38 (G : GT) : FP G 42 11 38 RX11 TX11 39 .int tyX11 (fs_42 G) := ⟨by decide, fun _ => rfl, rfl, by decide, inT_X11, fun _ _ => rfl, fun _ => Nat.le_of_ble_eq_true rfl, rfl, by decide +kernel, tyX11_ok, nmX11⟩
theorem aa_43 (G : GT) : AI G 43 8 := ⟨by decide, fun _ => rfl⟩
theorem aa_44 (G : GT) : AI G 44 8 := ⟨by decide, fun _ => rfl⟩
theorem aa_45 (G : GT) : AI G 45 300 := ⟨by decide, fun _ => rfl⟩
theorem aa_46 (G : GT) : AI G 46 300 := ⟨by decide, fun _ => rfl⟩
theorem aa_47 (G : GT) : AI G 47 300 := ⟨by decide, fun _ => rfl⟩
theorem aa_48 (G : GT) : AZ G 48 256 := ⟨by decide, fun _ => rfl⟩
theorem aa_49 (G : GT) : AZ G 49 256 := ⟨by decide, fun _ => rfl⟩
theorem aa_50 (G : GT) : AZ G 50 256 := ⟨by decide, fun _ => rfl⟩
theorem aa_51 (G : GT) : AI G 51 256 := ⟨by decide, fun _ => rfl⟩
theorem aa_52 (G : GT) : AZ G 52 256 := ⟨by decide, fun _ => rfl⟩
theorem aa_53 (G : GT) : AI G 53 256 := ⟨by decide, fun _ => rfl⟩
theorem aa_54 (G : GT) : AI G 54 8 := ⟨by decide, fun _ => rfl⟩
theorem aa_55 (G : GT) : AI G 55 8 := ⟨by decide, fun _ => rfl⟩
theorem aa_56 (G : GT) : AZ G 56 256 := ⟨by decide, fun _ => rfl⟩
theorem aa_57 (G : GT) : AZ G 57 256 := ⟨by decide, fun _ => rfl⟩
theorem aa_58 (G : GT) : AZ G 58 256 := ⟨by decide, fun _ => rfl⟩
theorem aa_59 (G : GT) : AI G 59 12 := ⟨by decide, fun _ => rfl⟩
theorem aa_60 (G : GT) : AI G 60 12 := ⟨by decide, fun _ => rfl⟩
theorem aa_61 (G : GT) : AI G 61 12 := ⟨by decide, fun _ => rfl⟩
theorem aa_62 (G : GT) : AI G 62 12 := ⟨by decide, fun _ => rfl⟩
theorem aa_63 (G : GT) : AI G 63 300 := ⟨by decide, fun _ => rfl⟩
theorem aa_64 (G : GT) : AI G 64 300 := ⟨by decide, fun _ => rfl⟩
theorem aa_65 (G : GT) : AI G 65 300 := ⟨by decide, fun _ => rfl⟩

def lenL : List Nat := [0, 0, 8, 64, 64, 0, 0, 300, 300, 300, 0, 0, 8, 64, 0, 64, 256, 224, 0, 64, 256, 0, 0, 8, 64, 8, 8, 0, 8, 8, 0, 0, 8, 8, 8, 12, 12, 12, 12, 0, 300, 300, 0, 8, 8, 300, 300, 300, 256, 256, 256, 256, 256, 256, 8, 8, 256, 256, 256, 12, 12, 12, 12, 300, 300, 300]
def lenA (k : Nat) : Nat := lenL.getD k 0
theorem fa_eqI (a b : Int32) : a = b ↔ a.toInt = b.toInt := ⟨fun h => by rw [h], Int32.toInt_inj.mp⟩
theorem sw_out {x : Int32} (n : Nat) (h : ∀ j : Nat, j ≤ n → ¬ x = nI j) (hn : n < 1000 := by decide) : x.toInt < 0 ∨ (n : Int) < x.toInt := by
  rcases Int.lt_or_le x.toInt 0 with q | q
  · exact Or.inl q
  · refine Or.inr (Int.not_le.mp (fun q2 => ?_))
    refine h x.toInt.toNat (by omega) ?_
    rw [fa_eqI, nI_toInt (by omega)]
    omega
def f_WP_isBetween (N : Nat) (τ : Hp) (v0 v1 v2 : Int32) : OR := (if v0 < v1 then some (0, τ) else (if v2 < v0 then some (0, τ) else some (1, τ)))
def f_Nt_addHost (N t : Nat) (τ : Hp) (v1 : Int32) : OR := (if (τ t 3) < 8 then ogd (inb (τ t 3) 8) (ilet (upR τ (t + 1) (upd (τ (t + 1)) (Int32.toNatClampNeg (τ t 3)) v1)) fun τ1 => ilet (upR τ1 t (upd (τ1 t) 3 ((τ1 t 3) + 1))) fun τ2 => some ((τ2 t 3) - 1, τ2)) else some ((-1), τ))
def f_WP_host (N t : Nat) (τ : Hp) (v1 : Int32) : OR := obd (f_WP_isBetween N τ v1 0 3) fun r1 τ2 => (if r1 = 0 then some ((-1), τ2) else obd (f_Nt_addHost N (t + 1) τ2 v1) fun r3 τ4 => some (r3, τ4))
def f_Mo_host (N t : Nat) (τ : Hp) (v1 : Int32) : OR := ilet (upR τ t (upd (τ t) 0 0)) fun τ1 => (if v1 < 0 then some ((-1), τ1) else (if 3 < v1 then some ((-1), τ1) else (if (τ1 t 1) = 8 then some ((-1), τ1) else ogd (inb (τ1 t 1) 8) (ilet (upR τ1 (t + 1) (upd (τ1 (t + 1)) (Int32.toNatClampNeg (τ1 t 1)) v1)) fun τ2 => ilet (upR τ2 t (upd (τ2 t) 1 ((τ2 t 1) + 1))) fun τ3 => some ((τ3 t 1) - 1, τ3)))))
def f_Nt_isHost (N t : Nat) (τ : Hp) (v1 : Int32) : OR := obd (f_WP_isBetween N τ v1 0 ((τ t 3) - 1)) fun r1 τ2 => ogd (isB r1) (some (r1, τ2))
def f_Nt_isWay (N t : Nat) (τ : Hp) (v1 v2 v3 : Int32) : OR := obd (f_Nt_isHost N t τ v1) fun r1 τ2 => (if r1 = 0 then some (0, τ2) else obd (f_Nt_isHost N t τ2 v2) fun r3 τ4 => (if r3 = 0 then some (0, τ4) else (if v1 = v2 then some (0, τ4) else obd (f_WP_isBetween N τ4 v3 0 3) fun r5 τ6 => (if r5 = 0 then some (0, τ6) else some (1, τ6)))))
def f_WP_isDay (N : Nat) (τ : Hp) (v0 : Int32) : OR := obd (f_WP_isBetween N τ v0 0 99) fun r1 τ2 => ogd (isB r1) (some (r1, τ2))
def f_WP_pairOf (N : Nat) (τ : Hp) (v0 v1 : Int32) : OR := some ((v0 * 8) + v1, τ)
def f_WP_wayOf (N : Nat) (τ : Hp) (v0 v1 v2 : Int32) : OR := obd (f_WP_pairOf N τ v0 v1) fun r1 τ2 => some ((r1 * 4) + v2, τ2)
def f_Di_write (N t : Nat) (τ : Hp) (v1 v2 v3 : Int32) : OR := (if (τ t 3) < 300 then ogd (inb (τ t 3) 300) (ilet (upR τ (t + 1) (upd (τ (t + 1)) (Int32.toNatClampNeg (τ t 3)) v1)) fun τ1 => ogd (inb (τ1 t 3) 300) (ilet (upR τ1 (t + 2) (upd (τ1 (t + 2)) (Int32.toNatClampNeg (τ1 t 3)) v2)) fun τ2 => ogd (inb (τ2 t 3) 300) (ilet (upR τ2 (t + 3) (upd (τ2 (t + 3)) (Int32.toNatClampNeg (τ2 t 3)) v3)) fun τ3 => ilet (upR τ3 t (upd (τ3 t) 3 ((τ3 t 3) + 1))) fun τ4 => some (τ4 t 3, τ4)))) else some ((-1), τ))
def f_WP_talk (N t : Nat) (τ : Hp) (v1 v2 v3 v4 v5 : Int32) : OR := obd (f_Nt_isWay N (t + 1) τ v1 v2 v3) fun r1 τ2 => (if r1 = 0 then some ((-1), τ2) else obd (f_WP_isDay N τ2 v4) fun r3 τ4 => (if r3 = 0 then some ((-1), τ4) else obd (f_WP_isBetween N τ4 v5 1 999) fun r5 τ6 => (if r5 = 0 then some ((-1), τ6) else obd (f_WP_wayOf N τ6 v1 v2 v3) fun r7 τ8 => obd (f_Di_write N (t + 6) τ8 r7 v4 v5) fun r9 τ10 => some (r9, τ10))))
def f_Mo_isHost (N t : Nat) (τ : Hp) (v1 : Int32) : OR := (if v1 < 0 then some (0, τ) else (if (τ t 1) ≤ v1 then some (0, τ) else some (1, τ)))
def f_Mo_way (N t : Nat) (τ : Hp) (v1 v2 v3 : Int32) : OR := obd (f_Mo_isHost N t τ v1) fun r1 τ2 => (if r1 = 0 then some ((-1), τ2) else obd (f_Mo_isHost N t τ2 v2) fun r3 τ4 => (if r3 = 0 then some ((-1), τ4) else (if v1 = v2 then some ((-1), τ4) else (if v3 < 0 then some ((-1), τ4) else (if 3 < v3 then some ((-1), τ4) else some (((32 * v1) + (4 * v2)) + v3, τ4))))))
def f_Mo_isDay (N : Nat) (τ : Hp) (v0 : Int32) : OR := (if v0 < 0 then some (0, τ) else (if 99 < v0 then some (0, τ) else some (1, τ)))
def f_Mo_talk (N t : Nat) (τ : Hp) (v1 v2 v3 v4 v5 : Int32) : OR := ilet (upR τ t (upd (τ t) 0 0)) fun τ1 => obd (f_Mo_way N t τ1 v1 v2 v3) fun r2 τ3 => (if r2 = (-1) then some ((-1), τ3) else obd (f_Mo_isDay N τ3 v4) fun r4 τ5 => (if r4 = 0 then some ((-1), τ5) else (if v5 < 1 then some ((-1), τ5) else (if 999 < v5 then some ((-1), τ5) else (if (τ5 t 4) = 300 then some ((-1), τ5) else ogd (inb (τ5 t 4) 300) (ilet (upR τ5 (t + 3) (upd (τ5 (t + 3)) (Int32.toNatClampNeg (τ5 t 4)) r2)) fun τ6 => ogd (inb (τ6 t 4) 300) (ilet (upR τ6 (t + 4) (upd (τ6 (t + 4)) (Int32.toNatClampNeg (τ6 t 4)) v4)) fun τ7 => ogd (inb (τ7 t 4) 300) (ilet (upR τ7 (t + 5) (upd (τ7 (t + 5)) (Int32.toNatClampNeg (τ7 t 4)) v5)) fun τ8 => ilet (upR τ8 t (upd (τ8 t) 4 ((τ8 t 4) + 1))) fun τ9 => some (τ9 t 4, τ9)))))))))
def f_WP_hasDoor (N : Nat) (τ : Hp) (v0 v1 : Int32) : OR := (if ((v0 >>> (v1 &&& 31)) &&& 1) = 1 then some (1, τ) else some (0, τ))
def f_WP_turnDoor (N q0 q1 : Nat) (τ : Hp) (v2 v3 v4 : Int32) : OR := ogd (inb v2 64) (obd (f_WP_hasDoor N τ (τ q1 (Int32.toNatClampNeg v2)) v3) fun r1 τ2 => (if r1 = 0 then ogd (inb v2 64) (obd (f_WP_hasDoor N τ2 (τ2 q0 (Int32.toNatClampNeg v2)) v3) fun r3 τ4 => (if r3 = v4 then some (0, τ4) else ogd (inb v2 64) (ogd (inb v2 64) (ilet (upR τ4 q0 (upd (τ4 q0) (Int32.toNatClampNeg v2) ((τ4 q0 (Int32.toNatClampNeg v2)) ^^^ (1 <<< (v3 &&& 31))))) fun τ5 => some (1, τ5))))) else some (0, τ2)))
def f_WP_must (N t : Nat) (τ : Hp) (v1 v2 v3 v4 : Int32) : OR := obd (f_Nt_isWay N (t + 1) τ v1 v2 v3) fun r1 τ2 => (if r1 = 0 then some (0, τ2) else obd (f_WP_pairOf N τ2 v1 v2) fun r3 τ4 => obd (f_WP_turnDoor N (t + 3) (t + 4) τ4 r3 v3 v4) fun r5 τ6 => ogd (isB r5) (some (r5, τ6)))
def f_Mo_must (N t : Nat) (τ : Hp) (v1 v2 v3 v4 : Int32) : OR := ilet (upR τ t (upd (τ t) 0 0)) fun τ1 => obd (f_Mo_way N t τ1 v1 v2 v3) fun r2 τ3 => (if r2 = (-1) then some (0, τ3) else ogd (inb r2 256) ((if (τ3 (t + 7) (Int32.toNatClampNeg r2)) = 0 then ogd (inb r2 256) ((if (τ3 (t + 6) (Int32.toNatClampNeg r2)) = v4 then some (0, τ3) else ogd (inb r2 256) (ilet (upR τ3 (t + 6) (upd (τ3 (t + 6)) (Int32.toNatClampNeg r2) (nz v4))) fun τ4 => some (1, τ4)))) else some (0, τ3))))
def f_WP_bar (N t : Nat) (τ : Hp) (v1 v2 v3 v4 : Int32) : OR := obd (f_Nt_isWay N (t + 1) τ v1 v2 v3) fun r1 τ2 => (if r1 = 0 then some (0, τ2) else obd (f_WP_pairOf N τ2 v1 v2) fun r3 τ4 => obd (f_WP_turnDoor N (t + 4) (t + 3) τ4 r3 v3 v4) fun r5 τ6 => ogd (isB r5) (some (r5, τ6)))
def f_Mo_bar (N t : Nat) (τ : Hp) (v1 v2 v3 v4 : Int32) : OR := ilet (upR τ t (upd (τ t) 0 0)) fun τ1 => obd (f_Mo_way N t τ1 v1 v2 v3) fun r2 τ3 => (if r2 = (-1) then some (0, τ3) else ogd (inb r2 256) ((if (τ3 (t + 6) (Int32.toNatClampNeg r2)) = 0 then ogd (inb r2 256) ((if (τ3 (t + 7) (Int32.toNatClampNeg r2)) = v4 then some (0, τ3) else ogd (inb r2 256) (ilet (upR τ3 (t + 7) (upd (τ3 (t + 7)) (Int32.toNatClampNeg r2) (nz v4))) fun τ4 => some (1, τ4)))) else some (0, τ3))))
def f_WP_law (N t : Nat) (τ : Hp) (v1 v2 v3 : Int32) : OR := obd (f_WP_isBetween N τ v1 1 100) fun r1 τ2 => (if r1 = 0 then some (0, τ2) else obd (f_WP_isBetween N τ2 v2 1 9999) fun r3 τ4 => (if r3 = 0 then some (0, τ4) else ilet (upR τ4 (t + 5) (upd (τ4 (t + 5)) 0 v1)) fun τ5 => ilet (upR τ5 (t + 5) (upd (τ5 (t + 5)) 1 v2)) fun τ6 => ogd (isB v3) (ilet (upR τ6 (t + 5) (upd (τ6 (t + 5)) 2 v3)) fun τ7 => some (1, τ7))))
def f_Mo_law (N t : Nat) (τ : Hp) (v1 v2 v3 : Int32) : OR := ilet (upR τ t (upd (τ t) 0 0)) fun τ1 => (if v1 < 1 then some (0, τ1) else (if 100 < v1 then some (0, τ1) else (if v2 < 1 then some (0, τ1) else (if v2 ≤ 9999 then ilet (upR τ1 t (upd (τ1 t) 10 v1)) fun τ2 => ilet (upR τ2 t (upd (τ2 t) 11 v2)) fun τ3 => ogd (isB v3) (ilet (upR τ3 t (upd (τ3 t) 12 v3)) fun τ4 => some (1, τ4)) else some (0, τ1)))))
def f_WP_prices (N t : Nat) (τ : Hp) (v1 v2 : Int32) : OR := obd (f_WP_isBetween N τ v1 0 99) fun r1 τ2 => (if r1 = 0 then some (0, τ2) else obd (f_WP_isBetween N τ2 v2 0 99) fun r3 τ4 => (if r3 = 0 then some (0, τ4) else ilet (upR τ4 (t + 5) (upd (τ4 (t + 5)) 3 v1)) fun τ5 => ilet (upR τ5 (t + 5) (upd (τ5 (t + 5)) 4 v2)) fun τ6 => some (1, τ6)))
def f_Mo_prices (N t : Nat) (τ : Hp) (v1 v2 : Int32) : OR := ilet (upR τ t (upd (τ t) 0 0)) fun τ1 => (if v1 < 0 then some (0, τ1) else (if 99 < v1 then some (0, τ1) else (if v2 < 0 then some (0, τ1) else (if v2 ≤ 99 then ilet (upR τ1 t (upd (τ1 t) 13 v1)) fun τ2 => ilet (upR τ2 t (upd (τ2 t) 14 v2)) fun τ3 => some (1, τ3) else some (0, τ1)))))
def f_Di_isWithin (N t : Nat) (τ : Hp) (v1 v2 v3 : Int32) : OR := ogd (inb v1 300) ((if v2 < (τ (t + 2) (Int32.toNatClampNeg v1)) then some (0, τ) else ogd (inb v1 300) ((if (τ (t + 2) (Int32.toNatClampNeg v1)) ≤ (v2 - v3) then some (0, τ) else some (1, τ)))))
def f_Di_sumOf_L6b (N t : Nat) (k6 : Hp → Int32 → Int32 → Int32 → Int32 → Int32 → OR) (τ : Hp) (v1 v2 v3 v4 v5 : Int32) : OR := (if (τ t 3) ≤ v5 then some (v4, τ) else ogd (inb v5 300) ((if (τ (t + 1) (Int32.toNatClampNeg v5)) = v1 then obd (f_Di_isWithin N t τ v5 v2 v3) fun r1 τ2 => (if r1 = 0 then ilet (v5 + 1) fun x3 => k6 τ2 v1 v2 v3 v4 x3 else ogd (inb v5 300) (ilet (v4 + (τ2 (t + 3) (Int32.toNatClampNeg v5))) fun x4 => ilet (v5 + 1) fun x5 => k6 τ2 v1 v2 v3 x4 x5)) else ilet (v5 + 1) fun x6 => k6 τ v1 v2 v3 v4 x6)))
def f_Di_sumOf_L6 (N t : Nat) : Nat → Hp → Int32 → Int32 → Int32 → Int32 → Int32 → OR
  | 0 => fun _ _ _ _ _ _ => none
  | n + 1 => fun τ v1 v2 v3 v4 v5 => f_Di_sumOf_L6b N t (f_Di_sumOf_L6 N t n) τ v1 v2 v3 v4 v5
def f_Di_sumOf (N t : Nat) (τ : Hp) (v1 v2 v3 : Int32) : OR := f_Di_sumOf_L6 N t N τ v1 v2 v3 0 0
def f_WP_weight (N t : Nat) (τ : Hp) (v1 v2 v3 v4 : Int32) : OR := obd (f_Nt_isWay N (t + 1) τ v1 v2 v3) fun r1 τ2 => (if r1 = 0 then some ((-1), τ2) else obd (f_WP_isDay N τ2 v4) fun r3 τ4 => (if r3 = 0 then some ((-1), τ4) else obd (f_WP_wayOf N τ4 v1 v2 v3) fun r5 τ6 => obd (f_Di_sumOf N (t + 6) τ6 r5 v4 (τ6 (t + 5) 0)) fun r7 τ8 => some (r7, τ8)))
def f_Mo_weightOf_L5b (N t : Nat) (k5 : Hp → Int32 → Int32 → Int32 → Int32 → OR) (τ : Hp) (v1 v2 v3 v4 : Int32) : OR := (if (τ t 4) ≤ v4 then some (v3, τ) else ogd (inb v4 300) ((if (τ (t + 3) (Int32.toNatClampNeg v4)) = v1 then ogd (inb v4 300) ((if v2 < (τ (t + 4) (Int32.toNatClampNeg v4)) then ilet (v4 + 1) fun x1 => k5 τ v1 v2 v3 x1 else ogd (inb v4 300) ((if (τ (t + 4) (Int32.toNatClampNeg v4)) ≤ (v2 - (τ t 10)) then ilet (v4 + 1) fun x2 => k5 τ v1 v2 v3 x2 else ogd (inb v4 300) (ilet (v3 + (τ (t + 5) (Int32.toNatClampNeg v4))) fun x3 => ilet (v4 + 1) fun x4 => k5 τ v1 v2 x3 x4))))) else ilet (v4 + 1) fun x5 => k5 τ v1 v2 v3 x5)))
def f_Mo_weightOf_L5 (N t : Nat) : Nat → Hp → Int32 → Int32 → Int32 → Int32 → OR
  | 0 => fun _ _ _ _ _ => none
  | n + 1 => fun τ v1 v2 v3 v4 => f_Mo_weightOf_L5b N t (f_Mo_weightOf_L5 N t n) τ v1 v2 v3 v4
def f_Mo_weightOf (N t : Nat) (τ : Hp) (v1 v2 : Int32) : OR := f_Mo_weightOf_L5 N t N τ v1 v2 0 0
def f_Mo_weight (N t : Nat) (τ : Hp) (v1 v2 v3 v4 : Int32) : OR := ilet (upR τ t (upd (τ t) 0 0)) fun τ1 => obd (f_Mo_way N t τ1 v1 v2 v3) fun r2 τ3 => (if r2 = (-1) then some ((-1), τ3) else obd (f_Mo_isDay N τ3 v4) fun r4 τ5 => (if r4 = 0 then some ((-1), τ5) else obd (f_Mo_weightOf N t τ5 r2 v4) fun r6 τ7 => some (r6, τ7)))
def f_Nt_isNeed (N t : Nat) (τ : Hp) (v1 v2 v3 v4 : Int32) : OR := ogd (inb v1 64) (obd (f_WP_hasDoor N τ (τ (t + 2) (Int32.toNatClampNeg v1)) v2) fun r1 τ2 => (if r1 = 0 then ogd (inb v1 64) (obd (f_WP_hasDoor N τ2 (τ2 (t + 3) (Int32.toNatClampNeg v1)) v2) fun r3 τ4 => (if r3 = 0 then (if v3 < v4 then some (0, τ4) else some (1, τ4)) else some (0, τ4))) else some (1, τ2)))
def f_WP_needed (N t : Nat) (τ : Hp) (v1 v2 v3 v4 : Int32) : OR := obd (f_Nt_isWay N (t + 1) τ v1 v2 v3) fun r1 τ2 => (if r1 = 0 then some ((-1), τ2) else obd (f_WP_isDay N τ2 v4) fun r3 τ4 => (if r3 = 0 then some ((-1), τ4) else obd (f_WP_wayOf N τ4 v1 v2 v3) fun r5 τ6 => obd (f_Di_sumOf N (t + 6) τ6 r5 v4 (τ6 (t + 5) 0)) fun r7 τ8 => obd (f_WP_pairOf N τ8 v1 v2) fun r9 τ10 => obd (f_Nt_isNeed N (t + 1) τ10 r9 v3 r7 (τ10 (t + 5) 1)) fun r11 τ12 => (if r11 = 0 then some (0, τ12) else some (1, τ12))))
def f_Mo_isNeeded (N t : Nat) (τ : Hp) (v1 v2 : Int32) : OR := ogd (inb v1 256) ((if (τ (t + 6) (Int32.toNatClampNeg v1)) = 0 then ogd (inb v1 256) ((if (τ (t + 7) (Int32.toNatClampNeg v1)) = 0 then (if v2 < (τ t 11) then some (0, τ) else some (1, τ)) else some (0, τ))) else some (1, τ)))
def f_Mo_needed (N t : Nat) (τ : Hp) (v1 v2 v3 v4 : Int32) : OR := ilet (upR τ t (upd (τ t) 0 0)) fun τ1 => obd (f_Mo_way N t τ1 v1 v2 v3) fun r2 τ3 => (if r2 = (-1) then some ((-1), τ3) else obd (f_Mo_isDay N τ3 v4) fun r4 τ5 => (if r4 = 0 then some ((-1), τ5) else obd (f_Mo_weightOf N t τ5 r2 v4) fun r6 τ7 => obd (f_Mo_isNeeded N t τ7 r2 r6) fun r8 τ9 => (if r8 = 0 then some (0, τ9) else some (1, τ9))))
def f_Nd_doorsOf_L6b (N t q2 : Nat) (k6 : Hp → Int32 → Int32 → Int32 → Int32 → OR) (τ : Hp) (v1 v3 v4 v5 : Int32) : OR := (if 4 ≤ v5 then some (v4, τ) else ogd (inb ((v1 * 4) + v5) 256) (obd (f_Nt_isNeed N q2 τ v1 v5 (τ (t + 2) (Int32.toNatClampNeg ((v1 * 4) + v5))) v3) fun r1 τ2 => (if r1 = 0 then ilet (v5 + 1) fun x3 => k6 τ2 v1 v3 v4 x3 else ilet (v4 ||| (1 <<< (v5 &&& 31))) fun x4 => ilet (v5 + 1) fun x5 => k6 τ2 v1 v3 x4 x5)))
def f_Nd_doorsOf_L6 (N t q2 : Nat) : Nat → Hp → Int32 → Int32 → Int32 → Int32 → OR
  | 0 => fun _ _ _ _ _ => none
  | n + 1 => fun τ v1 v3 v4 v5 => f_Nd_doorsOf_L6b N t q2 (f_Nd_doorsOf_L6 N t q2 n) τ v1 v3 v4 v5
def f_Nd_doorsOf (N t q2 : Nat) (τ : Hp) (v1 v3 : Int32) : OR := f_Nd_doorsOf_L6 N t q2 N τ v1 v3 0 0
def f_Jf_fill_L5b (N q0 : Nat) (k5 : Hp → Int32 → Int32 → Int32 → OR) (τ : Hp) (v1 v2 v3 : Int32) : OR := (if v3 ≤ v2 then some (0, τ) else ogd (inb v2 (lenA q0)) (ilet (upR τ q0 (upd (τ q0) (Int32.toNatClampNeg v2) v1)) fun τ1 => ilet (v2 + 1) fun x2 => k5 τ1 v1 x2 v3))
def f_Jf_fill_L5 (N q0 : Nat) : Nat → Hp → Int32 → Int32 → Int32 → OR
  | 0 => fun _ _ _ _ => none
  | n + 1 => fun τ v1 v2 v3 => f_Jf_fill_L5b N q0 (f_Jf_fill_L5 N q0 n) τ v1 v2 v3
def f_Jf_fill (N q0 : Nat) (τ : Hp) (v1 : Int32) : OR := ilet (nI (lenA q0)) fun x1 => f_Jf_fill_L5 N q0 N τ v1 0 x1
def f_Di_sumAll_L8b (N t q1 : Nat) (k8 : Hp → Int32 → Int32 → Int32 → OR) (τ : Hp) (v2 v3 v4 : Int32) : OR := (if (τ t 3) ≤ v4 then some (0, τ) else obd (f_Di_isWithin N t τ v4 v2 v3) fun r1 τ2 => (if r1 = 0 then ilet (v4 + 1) fun x3 => k8 τ2 v2 v3 x3 else ogd (inb v4 300) (ogd (inb (τ2 (t + 1) (Int32.toNatClampNeg v4)) 256) (ogd (inb v4 300) (ogd (inb (τ2 (t + 1) (Int32.toNatClampNeg v4)) 256) (ilet (upR τ2 q1 (upd (τ2 q1) (Int32.toNatClampNeg (τ2 (t + 1) (Int32.toNatClampNeg v4))) ((τ2 q1 (Int32.toNatClampNeg (τ2 (t + 1) (Int32.toNatClampNeg v4)))) + (τ2 (t + 3) (Int32.toNatClampNeg v4))))) fun τ4 => ilet (v4 + 1) fun x5 => k8 τ4 v2 v3 x5))))))
def f_Di_sumAll_L8 (N t q1 : Nat) : Nat → Hp → Int32 → Int32 → Int32 → OR
  | 0 => fun _ _ _ _ => none
  | n + 1 => fun τ v2 v3 v4 => f_Di_sumAll_L8b N t q1 (f_Di_sumAll_L8 N t q1 n) τ v2 v3 v4
def f_Di_sumAll (N t q1 : Nat) (τ : Hp) (v2 v3 : Int32) : OR := obd (f_Jf_fill N q1 τ 0) fun _ τ2 => f_Di_sumAll_L8 N t q1 N τ2 v2 v3 0
def f_Nd_take_L17b (N t q1 q2 q3 : Nat) (k17 : Hp → Int32 → OR) (τ : Hp) (v5 : Int32) : OR := (if 64 ≤ v5 then some (0, τ) else obd (f_Nd_doorsOf N t q1 τ v5 (τ q2 1)) fun r1 τ2 => ogd (inb v5 64) (ilet (upR τ2 (t + 1) (upd (τ2 (t + 1)) (Int32.toNatClampNeg v5) r1)) fun τ3 => ilet (v5 + 1) fun x4 => k17 τ3 x4))
def f_Nd_take_L17 (N t q1 q2 q3 : Nat) : Nat → Hp → Int32 → OR
  | 0 => fun _ _ => none
  | n + 1 => fun τ v5 => f_Nd_take_L17b N t q1 q2 q3 (f_Nd_take_L17 N t q1 q2 q3 n) τ v5
def f_Nd_take (N t q1 q2 q3 : Nat) (τ : Hp) (v4 : Int32) : OR := obd (f_Di_sumAll N q3 (t + 2) τ v4 (τ q2 0)) fun _ τ2 => f_Nd_take_L17 N t q1 q2 q3 N τ2 0
def f_Jb_bitCount (N : Nat) (τ : Hp) (v0 : Int32) : OR := ilet (v0 - (((v0.toUInt32 >>> (Int32.toUInt32 1 &&& Int32.toUInt32 31)).toInt32) &&& 1431655765)) fun x1 => ilet ((x1 &&& 858993459) + (((x1.toUInt32 >>> (Int32.toUInt32 2 &&& Int32.toUInt32 31)).toInt32) &&& 858993459)) fun x2 => ilet ((x2 + ((x2.toUInt32 >>> (Int32.toUInt32 4 &&& Int32.toUInt32 31)).toInt32)) &&& 252645135) fun x3 => ilet (x3 + ((x3.toUInt32 >>> (Int32.toUInt32 8 &&& Int32.toUInt32 31)).toInt32)) fun x4 => ilet (x4 + ((x4.toUInt32 >>> (Int32.toUInt32 16 &&& Int32.toUInt32 31)).toInt32)) fun x5 => some (x5 &&& 63, τ)
def f_Ly_countStraysFrom_J56 (N t q2 q3 : Nat) (k11 : Hp → Int32 → Int32 → Int32 → Int32 → OR) (τ : Hp) (v1 v4 v5 v6 w0 : Int32) : OR := (if w0 = 0 then ilet (v6 + 1) fun x1 => k11 τ v1 v4 v5 x1 else obd (f_WP_pairOf N τ v1 v6) fun r2 τ3 => ogd (inb r2 64) (obd (f_Jb_bitCount N τ3 (w0 &&& ((τ3 q2 (Int32.toNatClampNeg r2)) ^^^ (-1)))) fun r4 τ5 => ilet (upR τ5 t (upd (τ5 t) 3 ((τ3 t 3) + r4))) fun τ6 => (if (τ6 t 4) = 0 then ogd (inb r2 64) ((if (w0 &&& (τ6 q3 (Int32.toNatClampNeg r2))) = 0 then ilet (upR τ6 t (upd (τ6 t) 4 0)) fun τ7 => ilet (v6 + 1) fun x8 => k11 τ7 v1 v4 v5 x8 else ilet (upR τ6 t (upd (τ6 t) 4 1)) fun τ9 => ilet (v6 + 1) fun x10 => k11 τ9 v1 v4 v5 x10)) else ilet (upR τ6 t (upd (τ6 t) 4 1)) fun τ11 => ilet (v6 + 1) fun x12 => k11 τ11 v1 v4 v5 x12)))
def f_Ly_countStraysFrom_J35 (N t q2 q3 : Nat) (k11 : Hp → Int32 → Int32 → Int32 → Int32 → OR) (τ : Hp) (v1 v4 v5 v6 : Int32) : OR := f_Ly_countStraysFrom_J56 N t q2 q3 k11 τ v1 v4 v5 v6 0
def f_Ly_countStraysFrom_L11b (N t q2 q3 : Nat) (k11 : Hp → Int32 → Int32 → Int32 → Int32 → OR) (τ : Hp) (v1 v4 v5 v6 : Int32) : OR := (if v4 ≤ v6 then some (0, τ) else ogd (inb v6 8) ((if (τ (t + 1) (Int32.toNatClampNeg v6)) = (-1) then f_Ly_countStraysFrom_J35 N t q2 q3 k11 τ v1 v4 v5 v6 else (if v6 = v1 then f_Ly_countStraysFrom_J35 N t q2 q3 k11 τ v1 v4 v5 v6 else ogd (inb v6 8) (obd (f_WP_pairOf N τ v5 (τ (t + 1) (Int32.toNatClampNeg v6))) fun r1 τ2 => ogd (inb r1 64) (f_Ly_countStraysFrom_J56 N t q2 q3 k11 τ2 v1 v4 v5 v6 (τ2 (t + 2) (Int32.toNatClampNeg r1))))))))
def f_Ly_countStraysFrom_L11 (N t q2 q3 : Nat) : Nat → Hp → Int32 → Int32 → Int32 → Int32 → OR
  | 0 => fun _ _ _ _ _ => none
  | n + 1 => fun τ v1 v4 v5 v6 => f_Ly_countStraysFrom_L11b N t q2 q3 (f_Ly_countStraysFrom_L11 N t q2 q3 n) τ v1 v4 v5 v6
def f_Ly_countStraysFrom (N t q2 q3 : Nat) (τ : Hp) (v1 v4 : Int32) : OR := ogd (inb v1 8) (ilet (τ (t + 1) (Int32.toNatClampNeg v1)) fun x1 => f_Ly_countStraysFrom_L11 N t q2 q3 N τ v1 v4 x1 0)
def f_Ly_openDoorsFrom_L11b (N t q2 : Nat) (k11 : Hp → Int32 → Int32 → Int32 → Int32 → OR) (τ : Hp) (v1 v3 v4 v5 : Int32) : OR := (if v3 ≤ v5 then some (0, τ) else obd (f_WP_pairOf N τ v1 v5) fun r1 τ2 => ogd (inb r1 64) (ilet (τ2 q2 (Int32.toNatClampNeg r1)) fun x3 => (if x3 = 0 then ilet (v5 + 1) fun x4 => k11 τ2 v1 v3 v4 x4 else ogd (inb v5 8) ((if (τ2 (t + 1) (Int32.toNatClampNeg v5)) = (-1) then ilet (v5 + 1) fun x5 => k11 τ2 v1 v3 v4 x5 else ogd (inb v5 8) (obd (f_WP_pairOf N τ2 v4 (τ2 (t + 1) (Int32.toNatClampNeg v5))) fun r6 τ7 => ogd (inb r6 64) (obd (f_Jb_bitCount N τ7 (x3 &&& ((τ7 (t + 2) (Int32.toNatClampNeg r6)) ^^^ (-1)))) fun r8 τ9 => ilet (upR τ9 t (upd (τ9 t) 2 ((τ7 t 2) + r8))) fun τ10 => ogd (inb r6 64) (ogd (inb r6 64) (ilet (upR τ10 (t + 2) (upd (τ10 (t + 2)) (Int32.toNatClampNeg r6) ((τ10 (t + 2) (Int32.toNatClampNeg r6)) ||| x3))) fun τ11 => ilet (v5 + 1) fun x12 => k11 τ11 v1 v3 v4 x12)))))))))
def f_Ly_openDoorsFrom_L11 (N t q2 : Nat) : Nat → Hp → Int32 → Int32 → Int32 → Int32 → OR
  | 0 => fun _ _ _ _ _ => none
  | n + 1 => fun τ v1 v3 v4 v5 => f_Ly_openDoorsFrom_L11b N t q2 (f_Ly_openDoorsFrom_L11 N t q2 n) τ v1 v3 v4 v5
def f_Ly_openDoorsFrom (N t q2 : Nat) (τ : Hp) (v1 v3 : Int32) : OR := ogd (inb v1 8) (ilet (τ (t + 1) (Int32.toNatClampNeg v1)) fun x1 => f_Ly_openDoorsFrom_L11 N t q2 N τ v1 v3 x1 0)
def f_Ly_openRooms_L15b (N t : Nat) (k15 : Hp → Int32 → OR) (τ : Hp) (v1 : Int32) : OR := (if 8 ≤ v1 then some (0, τ) else obd (f_WP_pairOf N τ v1 v1) fun r1 τ2 => ogd (inb r1 64) (ilet (upR τ2 (t + 2) (upd (τ2 (t + 2)) (Int32.toNatClampNeg r1) 15)) fun τ3 => ilet (v1 + 1) fun x4 => k15 τ3 x4))
def f_Ly_openRooms_L15 (N t : Nat) : Nat → Hp → Int32 → OR
  | 0 => fun _ _ => none
  | n + 1 => fun τ v1 => f_Ly_openRooms_L15b N t (f_Ly_openRooms_L15 N t n) τ v1
def f_Ly_openRooms (N t : Nat) (τ : Hp) : OR := ilet (upR τ t (upd (τ t) 2 0)) fun τ1 => obd (f_Jf_fill N (t + 2) τ1 0) fun _ τ3 => f_Ly_openRooms_L15 N t N τ3 0
def f_Ly_draw_L51b (N t q1 q2 : Nat) (k51 : Hp → Int32 → Int32 → OR) (τ : Hp) (v3 v4 : Int32) : OR := (if v3 ≤ v4 then some (0, τ) else ogd (inb v4 8) ((if (τ (t + 1) (Int32.toNatClampNeg v4)) = (-1) then ilet (v4 + 1) fun x1 => k51 τ v3 x1 else obd (f_Ly_countStraysFrom N t q1 q2 τ v4 v3) fun _ τ3 => ilet (v4 + 1) fun x4 => k51 τ3 v3 x4)))
def f_Ly_draw_L51 (N t q1 q2 : Nat) : Nat → Hp → Int32 → Int32 → OR
  | 0 => fun _ _ _ => none
  | n + 1 => fun τ v3 v4 => f_Ly_draw_L51b N t q1 q2 (f_Ly_draw_L51 N t q1 q2 n) τ v3 v4
def f_Ly_draw_L7b (N t q1 q2 : Nat) (k7 : Hp → Int32 → Int32 → OR) (τ : Hp) (v3 v4 : Int32) : OR := (if v3 ≤ v4 then ilet (upR τ t (upd (τ t) 3 0)) fun τ1 => ilet (upR τ1 t (upd (τ1 t) 4 0)) fun τ2 => f_Ly_draw_L51 N t q1 q2 N τ2 v3 0 else ogd (inb v4 8) ((if (τ (t + 1) (Int32.toNatClampNeg v4)) = (-1) then ilet (v4 + 1) fun x3 => k7 τ v3 x3 else obd (f_Ly_openDoorsFrom N t q1 τ v4 v3) fun _ τ5 => ilet (v4 + 1) fun x6 => k7 τ5 v3 x6)))
def f_Ly_draw_L7 (N t q1 q2 : Nat) : Nat → Hp → Int32 → Int32 → OR
  | 0 => fun _ _ _ => none
  | n + 1 => fun τ v3 v4 => f_Ly_draw_L7b N t q1 q2 (f_Ly_draw_L7 N t q1 q2 n) τ v3 v4
def f_Ly_draw (N t q1 q2 : Nat) (τ : Hp) (v3 : Int32) : OR := obd (f_Ly_openRooms N t τ) fun _ τ2 => f_Ly_draw_L7 N t q1 q2 N τ2 v3 0
def f_La_costOf (N t : Nat) (τ : Hp) (v1 v2 : Int32) : OR := some ((v1 * (τ t 3)) + (v2 * (τ t 4)), τ)
def f_Ly_hasUnlike_L2b (N t q2 : Nat) (k2 : Hp → Int32 → Int32 → OR) (τ : Hp) (v1 v3 : Int32) : OR := (if 8 ≤ v3 then some (0, τ) else ogd (inb v3 8) (ogd (inb v1 8) ((if (τ (t + 1) (Int32.toNatClampNeg v3)) = (τ (t + 1) (Int32.toNatClampNeg v1)) then ogd (inb v3 8) (ogd (inb v1 8) ((if (τ q2 (Int32.toNatClampNeg v3)) = (τ q2 (Int32.toNatClampNeg v1)) then ilet (v3 + 1) fun x1 => k2 τ v1 x1 else some (1, τ)))) else ilet (v3 + 1) fun x2 => k2 τ v1 x2))))
def f_Ly_hasUnlike_L2 (N t q2 : Nat) : Nat → Hp → Int32 → Int32 → OR
  | 0 => fun _ _ _ => none
  | n + 1 => fun τ v1 v3 => f_Ly_hasUnlike_L2b N t q2 (f_Ly_hasUnlike_L2 N t q2 n) τ v1 v3
def f_Ly_hasUnlike (N t q2 : Nat) (τ : Hp) (v1 : Int32) : OR := f_Ly_hasUnlike_L2 N t q2 N τ v1 0
def f_Sk_isCheaper_J25 (N t q3 q4 q5 : Nat) (τ : Hp) (v2 : Int32) : OR := obd (f_Ly_draw N (t + 1) (q5 + 1) (q3 + 3) τ v2) fun _ τ2 => obd (f_La_costOf N q4 τ2 (τ2 (t + 1) 2) (τ2 (t + 1) 3)) fun r3 τ4 => ilet (upR τ4 t (upd (τ4 t) 3 r3)) fun τ5 => (if (τ5 (t + 1) 4) = 0 then (if (τ5 t 4) ≤ (τ5 t 3) then some (0, τ5) else some (1, τ5)) else some (0, τ5))
def f_Sk_isCheaper (N t q3 q4 q5 : Nat) (τ : Hp) (v1 v2 : Int32) : OR := (if (τ q4 2) = 0 then f_Sk_isCheaper_J25 N t q3 q4 q5 τ v2 else obd (f_Ly_hasUnlike N (t + 1) (q3 + 1) τ v1) fun r1 τ2 => (if r1 = 0 then f_Sk_isCheaper_J25 N t q3 q4 q5 τ2 v2 else some (0, τ2)))
def f_Sk_keepTrial (N t : Nat) (τ : Hp) : OR := ilet (cpR τ (t + 2) (t + 5) 8) fun τ1 => ilet (upR τ1 t (upd (τ1 t) 4 (τ1 t 3))) fun τ2 => some (0, τ2)
def f_Sk_goOn (N t : Nat) (τ : Hp) (v1 v2 : Int32) : OR := (if (v1 + 1) < v2 then ogd (inb v1 8) (ogd (inb v1 8) (ogd (inb (v1 + 1) 8) (ilet (upR τ (t + 4) (upd (τ (t + 4)) (Int32.toNatClampNeg (v1 + 1)) (imax (τ (t + 4) (Int32.toNatClampNeg v1)) ((τ (t + 2) (Int32.toNatClampNeg v1)) + 1)))) fun τ1 => some (v1 + 1, τ1)))) else obd (f_Sk_keepTrial N t τ) fun _ τ3 => some (v1, τ3))
def f_Nd_total_L4b (N t : Nat) (k4 : Hp → Int32 → Int32 → OR) (τ : Hp) (v1 v2 : Int32) : OR := (if 64 ≤ v2 then some (v1, τ) else ogd (inb v2 64) (obd (f_Jb_bitCount N τ (τ (t + 1) (Int32.toNatClampNeg v2))) fun r1 τ2 => ilet (v1 + r1) fun x3 => ilet (v2 + 1) fun x4 => k4 τ2 x3 x4))
def f_Nd_total_L4 (N t : Nat) : Nat → Hp → Int32 → Int32 → OR
  | 0 => fun _ _ _ => none
  | n + 1 => fun τ v1 v2 => f_Nd_total_L4b N t (f_Nd_total_L4 N t n) τ v1 v2
def f_Nd_total (N t : Nat) (τ : Hp) : OR := f_Nd_total_L4 N t N τ 0 0
def f_Sk_seekRooms_L47b (N t q1 q2 q3 : Nat) (k47 : Hp → Int32 → Int32 → OR) (τ : Hp) (v4 v5 : Int32) : OR := (if 1000000 ≤ v5 then some (0, τ) else (if v4 < 0 then some (0, τ) else ogd (inb v4 8) (ogd (inb v4 8) (ilet (upR τ (t + 2) (upd (τ (t + 2)) (Int32.toNatClampNeg v4) ((τ (t + 2) (Int32.toNatClampNeg v4)) + 1))) fun τ1 => ogd (inb v4 8) (ogd (inb v4 8) ((if (τ1 (t + 2) (Int32.toNatClampNeg v4)) ≤ (τ1 (t + 4) (Int32.toNatClampNeg v4)) then obd (f_Sk_isCheaper N t q1 q2 q3 τ1 v4 (v4 + 1)) fun r2 τ3 => (if r2 = 0 then ilet (v5 + 1) fun x4 => k47 τ3 v4 x4 else obd (f_Sk_goOn N t τ3 v4 (τ3 q1 3)) fun r5 τ6 => ilet (v5 + 1) fun x7 => k47 τ6 r5 x7) else ogd (inb v4 8) (ilet (upR τ1 (t + 2) (upd (τ1 (t + 2)) (Int32.toNatClampNeg v4) (-1))) fun τ8 => ilet (v4 + (-1)) fun x9 => ilet (v5 + 1) fun x10 => k47 τ8 x9 x10))))))))
def f_Sk_seekRooms_L47 (N t q1 q2 q3 : Nat) : Nat → Hp → Int32 → Int32 → OR
  | 0 => fun _ _ _ => none
  | n + 1 => fun τ v4 v5 => f_Sk_seekRooms_L47b N t q1 q2 q3 (f_Sk_seekRooms_L47 N t q1 q2 q3 n) τ v4 v5
def f_Sk_seekRooms (N t q1 q2 q3 : Nat) (τ : Hp) : OR := obd (f_Nd_total N q3 τ) fun r1 τ2 => obd (f_La_costOf N q2 τ2 r1 0) fun r3 τ4 => ilet (upR τ4 t (upd (τ4 t) 4 (r3 + 1))) fun τ5 => obd (f_Jf_fill N (t + 2) τ5 (-1)) fun _ τ7 => obd (f_Jf_fill N (t + 5) τ7 (-1)) fun _ τ9 => ilet (upR τ9 (t + 4) (upd (τ9 (t + 4)) (Int32.toNatClampNeg 0) 0)) fun τ10 => f_Sk_seekRooms_L47 N t q1 q2 q3 N τ10 0 0
def f_Ly_copyRooms (N t q1 : Nat) (τ : Hp) : OR := ilet (cpR τ q1 (t + 1) 8) fun τ1 => some (0, τ1)
def f_Nd_copyFrom (N t q1 : Nat) (τ : Hp) : OR := ilet (cpR τ (q1 + 1) (t + 1) 64) fun τ1 => ilet (cpR τ1 (q1 + 2) (t + 2) 256) fun τ2 => some (0, τ2)
def f_WP_doorOf (N : Nat) (τ : Hp) (v0 : Int32) : OR := some (v0 - v0 / 4 * 4, τ)
def f_WP_firstOf (N : Nat) (τ : Hp) (v0 : Int32) : OR := some ((v0 / 4) / 8, τ)
def f_WP_secondOf (N : Nat) (τ : Hp) (v0 : Int32) : OR := some ((v0 / 4) - (v0 / 4) / 8 * 8, τ)
def f_Pl_listRules_J30 (N t : Nat) (k7 : Hp → Int32 → OR) (τ : Hp) (v1 w0 : Int32) : OR := (if w0 = 0 then ilet (v1 + 1) fun x1 => k7 τ x1 else ogd (inb (v1 / 4) 64) (obd (f_WP_doorOf N τ v1) fun r2 τ3 => obd (f_WP_hasDoor N τ3 (τ (t + 3) (Int32.toNatClampNeg (v1 / 4))) r2) fun r4 τ5 => (if r4 = 0 then ilet (v1 + 1) fun x6 => k7 τ5 x6 else (if 224 ≤ (τ5 t 3) then ilet (v1 + 1) fun x7 => k7 τ5 x7 else ogd (inb (τ5 t 3) 224) (ilet (upR τ5 (t + 7) (upd (τ5 (t + 7)) (Int32.toNatClampNeg (τ5 t 3)) v1)) fun τ8 => ilet (upR τ8 t (upd (τ8 t) 3 ((τ8 t 3) + 1))) fun τ9 => ilet (v1 + 1) fun x10 => k7 τ9 x10)))))
def f_Pl_listRules_L7b (N t : Nat) (k7 : Hp → Int32 → OR) (τ : Hp) (v1 : Int32) : OR := (if 256 ≤ v1 then some (0, τ) else obd (f_WP_firstOf N τ v1) fun r1 τ2 => obd (f_WP_secondOf N τ2 v1) fun r3 τ4 => (if r1 = r3 then f_Pl_listRules_J30 N t k7 τ4 v1 0 else f_Pl_listRules_J30 N t k7 τ4 v1 1))
def f_Pl_listRules_L7 (N t : Nat) : Nat → Hp → Int32 → OR
  | 0 => fun _ _ => none
  | n + 1 => fun τ v1 => f_Pl_listRules_L7b N t (f_Pl_listRules_L7 N t n) τ v1
def f_Pl_listRules (N t : Nat) (τ : Hp) : OR := ilet (upR τ t (upd (τ t) 3 0)) fun τ1 => f_Pl_listRules_L7 N t N τ1 0
def f_Pl_settle (N t q1 q2 q3 q4 : Nat) (τ : Hp) : OR := obd (f_Ly_copyRooms N (t + 1) q1 τ) fun _ τ2 => obd (f_Nd_copyFrom N (t + 4) q2 τ2) fun _ τ4 => obd (f_Ly_draw N (t + 1) (t + 5) (q3 + 3) τ4 (τ4 q3 3)) fun _ τ6 => obd (f_La_costOf N q4 τ6 (τ6 (t + 1) 2) (τ6 (t + 1) 3)) fun r7 τ8 => ilet (upR τ8 t (upd (τ8 t) 4 r7)) fun τ9 => ilet (upR τ9 t (upd (τ9 t) 5 1)) fun τ10 => obd (f_Pl_listRules N t τ10) fun _ τ12 => some (0, τ12)
def f_WP_plan (N t : Nat) (τ : Hp) (v1 : Int32) : OR := obd (f_WP_isDay N τ v1) fun r1 τ2 => (if r1 = 0 then some ((-1), τ2) else (if (τ2 (t + 1) 3) = 0 then some ((-1), τ2) else obd (f_Nd_take N (t + 18) (t + 1) (t + 5) (t + 6) τ2 v1) fun _ τ4 => obd (f_Sk_seekRooms N (t + 21) (t + 1) (t + 5) (t + 18) τ4) fun _ τ6 => obd (f_Pl_settle N (t + 10) (t + 26) (t + 18) (t + 1) (t + 5) τ6) fun _ τ8 => some (τ8 (t + 10) 4, τ8)))
def f_Mo_goesOn_L64b (N t : Nat) (k64 : Hp → Int32 → OR) (τ : Hp) (v3 : Int32) : OR := (if (τ t 1) ≤ v3 then some (1, τ) else ogd (inb v3 8) (ilet (upR τ (t + 12) (upd (τ (t + 12)) (Int32.toNatClampNeg v3) 0)) fun τ1 => ilet (v3 + 1) fun x2 => k64 τ1 x2))
def f_Mo_goesOn_L64 (N t : Nat) : Nat → Hp → Int32 → OR
  | 0 => fun _ _ => none
  | n + 1 => fun τ v3 => f_Mo_goesOn_L64b N t (f_Mo_goesOn_L64 N t n) τ v3
def f_Mo_goesOn_L15b (N t : Nat) (k7 : Hp → Int32 → OR) (k15 : Hp → Int32 → Int32 → Int32 → OR) (τ : Hp) (v1 v2 v3 : Int32) : OR := (if v1 ≤ v3 then ogd (inb v1 8) ((if (τ (t + 12) (Int32.toNatClampNeg v1)) ≤ v2 then ogd (inb v1 8) (ogd (inb v1 8) (ilet (upR τ (t + 12) (upd (τ (t + 12)) (Int32.toNatClampNeg v1) ((τ (t + 12) (Int32.toNatClampNeg v1)) + 1))) fun τ1 => ilet (v1 + 1) fun x2 => f_Mo_goesOn_L64 N t N τ1 x2)) else ilet (v1 + (-1)) fun x3 => k7 τ x3)) else ogd (inb v3 8) (ilet (imax v2 (τ (t + 12) (Int32.toNatClampNeg v3))) fun x4 => ilet (v3 + 1) fun x5 => k15 τ v1 x4 x5))
def f_Mo_goesOn_L15 (N t : Nat) (k7 : Hp → Int32 → OR) : Nat → Hp → Int32 → Int32 → Int32 → OR
  | 0 => fun _ _ _ _ => none
  | n + 1 => fun τ v1 v2 v3 => f_Mo_goesOn_L15b N t k7 (f_Mo_goesOn_L15 N t k7 n) τ v1 v2 v3
def f_Mo_goesOn_L7b (N t : Nat) (k7 : Hp → Int32 → OR) (τ : Hp) (v1 : Int32) : OR := (if v1 ≤ 0 then some (0, τ) else f_Mo_goesOn_L15 N t k7 N τ v1 (-1) 0)
def f_Mo_goesOn_L7 (N t : Nat) : Nat → Hp → Int32 → OR
  | 0 => fun _ _ => none
  | n + 1 => fun τ v1 => f_Mo_goesOn_L7b N t (f_Mo_goesOn_L7 N t n) τ v1
def f_Mo_goesOn (N t : Nat) (τ : Hp) : OR := ilet ((τ t 1) - 1) fun x1 => f_Mo_goesOn_L7 N t N τ x1
def f_Mo_isTried (N t : Nat) (τ : Hp) (v1 : Int32) : OR := obd (f_Mo_way N t τ (v1 / 32) ((v1 / 4) - (v1 / 4) / 8 * 8) (v1 - v1 / 4 * 4)) fun r1 τ2 => (if r1 = (-1) then some (0, τ2) else ogd (inb (v1 / 32) 8) ((if (τ2 (t + 12) (Int32.toNatClampNeg (v1 / 32))) = (-1) then some (0, τ2) else ogd (inb ((v1 / 4) - (v1 / 4) / 8 * 8) 8) ((if (τ2 (t + 12) (Int32.toNatClampNeg ((v1 / 4) - (v1 / 4) / 8 * 8))) = (-1) then some (0, τ2) else some (1, τ2))))))
def f_Mo_between (N t : Nat) (τ : Hp) (v1 : Int32) : OR := ogd (inb (v1 / 32) 8) (ogd (inb ((v1 / 4) - (v1 / 4) / 8 * 8) 8) (some (((32 * (τ (t + 12) (Int32.toNatClampNeg (v1 / 32)))) + (4 * (τ (t + 12) (Int32.toNatClampNeg ((v1 / 4) - (v1 / 4) / 8 * 8))))) + (v1 - v1 / 4 * 4), τ)))
def f_Mo_costs_J191 (N t : Nat) (k116 : Hp → Int32 → Int32 → OR) (τ : Hp) (v1 v2 v3 : Int32) : OR := (if v3 = 0 then ilet (upR τ t (upd (τ t) 26 ((τ t 26) + 0))) fun τ1 => ilet (v2 + 1) fun x2 => k116 τ1 v1 x2 else ogd (inb v2 256) ((if (τ (t + 8) (Int32.toNatClampNeg v2)) = 0 then ilet (upR τ t (upd (τ t) 26 ((τ t 26) + 1))) fun τ3 => ilet (v2 + 1) fun x4 => k116 τ3 v1 x4 else ilet (upR τ t (upd (τ t) 26 ((τ t 26) + 0))) fun τ5 => ilet (v2 + 1) fun x6 => k116 τ5 v1 x6)))
def f_Mo_costs_J175 (N t : Nat) (k116 : Hp → Int32 → Int32 → OR) (τ : Hp) (v1 v2 w0 : Int32) : OR := (if w0 = 0 then f_Mo_costs_J191 N t k116 τ v1 v2 w0 else ogd (inb v2 256) ((if (τ (t + 7) (Int32.toNatClampNeg v2)) = 0 then f_Mo_costs_J191 N t k116 τ v1 v2 w0 else some ((-1), τ))))
def f_Mo_costs_J170 (N t : Nat) (k116 : Hp → Int32 → Int32 → OR) (τ : Hp) (v1 v2 : Int32) : OR := f_Mo_costs_J175 N t k116 τ v1 v2 1
def f_Mo_costs_L116b (N t : Nat) (k116 : Hp → Int32 → Int32 → OR) (τ : Hp) (v1 v2 : Int32) : OR := (if 256 ≤ v2 then some ((v1 * (τ t 13)) + ((τ t 26) * (τ t 14)), τ) else obd (f_Mo_isTried N t τ v2) fun r1 τ2 => (if r1 = 0 then ilet (v2 + 1) fun x3 => k116 τ2 v1 x3 else ogd (inb (v2 / 32) 8) (ogd (inb ((v2 / 4) - (v2 / 4) / 8 * 8) 8) ((if (τ2 (t + 12) (Int32.toNatClampNeg (v2 / 32))) = (τ2 (t + 12) (Int32.toNatClampNeg ((v2 / 4) - (v2 / 4) / 8 * 8))) then f_Mo_costs_J170 N t k116 τ2 v1 v2 else obd (f_Mo_between N t τ2 v2) fun r4 τ5 => ogd (inb r4 256) ((if (τ5 (t + 14) (Int32.toNatClampNeg r4)) = 0 then f_Mo_costs_J175 N t k116 τ5 v1 v2 0 else f_Mo_costs_J170 N t k116 τ5 v1 v2)))))))
def f_Mo_costs_L116 (N t : Nat) : Nat → Hp → Int32 → Int32 → OR
  | 0 => fun _ _ _ => none
  | n + 1 => fun τ v1 v2 => f_Mo_costs_L116b N t (f_Mo_costs_L116 N t n) τ v1 v2
def f_Mo_costs_L26b (N t : Nat) (k26 : Hp → Int32 → Int32 → OR) (τ : Hp) (v1 v2 : Int32) : OR := (if 256 ≤ v2 then ilet (upR τ t (upd (τ t) 26 0)) fun τ1 => f_Mo_costs_L116 N t N τ1 v1 0 else obd (f_Mo_isTried N t τ v2) fun r2 τ3 => (if r2 = 0 then ilet (v2 + 1) fun x4 => k26 τ3 v1 x4 else ogd (inb v2 256) ((if (τ3 (t + 8) (Int32.toNatClampNeg v2)) = 0 then ilet (v2 + 1) fun x5 => k26 τ3 v1 x5 else ogd (inb (v2 / 32) 8) (ogd (inb ((v2 / 4) - (v2 / 4) / 8 * 8) 8) ((if (τ3 (t + 12) (Int32.toNatClampNeg (v2 / 32))) = (τ3 (t + 12) (Int32.toNatClampNeg ((v2 / 4) - (v2 / 4) / 8 * 8))) then ilet (v2 + 1) fun x6 => k26 τ3 v1 x6 else obd (f_Mo_between N t τ3 v2) fun r7 τ8 => ogd (inb r7 256) ((if (τ8 (t + 14) (Int32.toNatClampNeg r7)) = 0 then obd (f_Mo_between N t τ8 v2) fun r9 τ10 => ogd (inb r9 256) (ilet (upR τ10 (t + 14) (upd (τ10 (t + 14)) (Int32.toNatClampNeg r9) (nz 1))) fun τ11 => ilet (v1 + 1) fun x12 => ilet (v2 + 1) fun x13 => k26 τ11 x12 x13) else ilet (v2 + 1) fun x14 => k26 τ8 v1 x14)))))))))
def f_Mo_costs_L26 (N t : Nat) : Nat → Hp → Int32 → Int32 → OR
  | 0 => fun _ _ _ => none
  | n + 1 => fun τ v1 v2 => f_Mo_costs_L26b N t (f_Mo_costs_L26 N t n) τ v1 v2
def f_Mo_costs_L2b (N t : Nat) (k2 : Hp → Int32 → OR) (τ : Hp) (v1 : Int32) : OR := (if 256 ≤ v1 then f_Mo_costs_L26 N t N τ 0 0 else ogd (inb v1 256) (ilet (upR τ (t + 14) (upd (τ (t + 14)) (Int32.toNatClampNeg v1) (nz 0))) fun τ1 => ilet (v1 + 1) fun x2 => k2 τ1 x2))
def f_Mo_costs_L2 (N t : Nat) : Nat → Hp → Int32 → OR
  | 0 => fun _ _ => none
  | n + 1 => fun τ v1 => f_Mo_costs_L2b N t (f_Mo_costs_L2 N t n) τ v1
def f_Mo_costs (N t : Nat) (τ : Hp) : OR := f_Mo_costs_L2 N t N τ 0
def f_Mo_comes_L46b (N t : Nat) (k46 : Hp → Int32 → OR) (τ : Hp) (v2 : Int32) : OR := (if 256 ≤ v2 then some (0, τ) else ogd (inb v2 256) (ogd (inb v2 256) (ilet (upR τ (t + 10) (upd (τ (t + 10)) (Int32.toNatClampNeg v2) (nz (τ (t + 8) (Int32.toNatClampNeg v2))))) fun τ1 => ogd (inb v2 256) (ogd (inb v2 256) (ilet (upR τ1 (t + 11) (upd (τ1 (t + 11)) (Int32.toNatClampNeg v2) (τ1 (t + 9) (Int32.toNatClampNeg v2)))) fun τ2 => ogd (inb v2 256) (ogd (inb v2 256) (ilet (upR τ2 (t + 15) (upd (τ2 (t + 15)) (Int32.toNatClampNeg v2) (nz (τ2 (t + 14) (Int32.toNatClampNeg v2))))) fun τ3 => ilet (v2 + 1) fun x4 => k46 τ3 x4)))))))
def f_Mo_comes_L46 (N t : Nat) : Nat → Hp → Int32 → OR
  | 0 => fun _ _ => none
  | n + 1 => fun τ v2 => f_Mo_comes_L46b N t (f_Mo_comes_L46 N t n) τ v2
def f_Mo_comes_L20b (N t : Nat) (k20 : Hp → Int32 → OR) (τ : Hp) (v2 : Int32) : OR := (if 8 ≤ v2 then f_Mo_comes_L46 N t N τ 0 else ogd (inb v2 8) (ogd (inb v2 8) (ilet (upR τ (t + 2) (upd (τ (t + 2)) (Int32.toNatClampNeg v2) (τ (t + 12) (Int32.toNatClampNeg v2)))) fun τ1 => ilet (v2 + 1) fun x2 => k20 τ1 x2)))
def f_Mo_comes_L20 (N t : Nat) : Nat → Hp → Int32 → OR
  | 0 => fun _ _ => none
  | n + 1 => fun τ v2 => f_Mo_comes_L20b N t (f_Mo_comes_L20 N t n) τ v2
def f_Mo_comes (N t : Nat) (τ : Hp) (v1 : Int32) : OR := ilet (upR τ t (upd (τ t) 19 1)) fun τ1 => ilet (upR τ1 t (upd (τ1 t) 20 v1)) fun τ2 => ilet (upR τ2 t (upd (τ2 t) 21 (τ2 t 26))) fun τ3 => f_Mo_comes_L20 N t N τ3 0
def f_Mo_mixes_L12b (N t : Nat) (k2 : Hp → Int32 → OR) (k12 : Hp → Int32 → Int32 → OR) (τ : Hp) (v1 v2 : Int32) : OR := (if v1 ≤ v2 then ilet (v1 + 1) fun x1 => k2 τ x1 else ogd (inb v1 8) (ogd (inb v2 8) ((if (τ (t + 12) (Int32.toNatClampNeg v1)) = (τ (t + 12) (Int32.toNatClampNeg v2)) then ogd (inb v1 8) (ogd (inb v2 8) ((if (τ (t + 1) (Int32.toNatClampNeg v1)) = (τ (t + 1) (Int32.toNatClampNeg v2)) then ilet (v2 + 1) fun x2 => k12 τ v1 x2 else some (1, τ)))) else ilet (v2 + 1) fun x3 => k12 τ v1 x3))))
def f_Mo_mixes_L12 (N t : Nat) (k2 : Hp → Int32 → OR) : Nat → Hp → Int32 → Int32 → OR
  | 0 => fun _ _ _ => none
  | n + 1 => fun τ v1 v2 => f_Mo_mixes_L12b N t k2 (f_Mo_mixes_L12 N t k2 n) τ v1 v2
def f_Mo_mixes_L2b (N t : Nat) (k2 : Hp → Int32 → OR) (τ : Hp) (v1 : Int32) : OR := (if (τ t 1) ≤ v1 then some (0, τ) else f_Mo_mixes_L12 N t k2 N τ v1 0)
def f_Mo_mixes_L2 (N t : Nat) : Nat → Hp → Int32 → OR
  | 0 => fun _ _ => none
  | n + 1 => fun τ v1 => f_Mo_mixes_L2b N t (f_Mo_mixes_L2 N t n) τ v1
def f_Mo_mixes (N t : Nat) (τ : Hp) : OR := f_Mo_mixes_L2 N t N τ 0
def f_Mo_dues_J55 (N t : Nat) (k2 : Hp → Int32 → Int32 → OR) (τ : Hp) (v1 v2 v3 w0 w1 : Int32) : OR := ogd (inb w1 256) (ilet (upR τ (t + 9) (upd (τ (t + 9)) (Int32.toNatClampNeg w1) w0)) fun τ1 => (if v3 = 0 then ogd (inb v2 256) (ilet (upR τ1 (t + 8) (upd (τ1 (t + 8)) (Int32.toNatClampNeg v2) (nz 0))) fun τ2 => ilet (v2 + 1) fun x3 => k2 τ2 v1 x3) else ogd (inb v2 256) (obd (f_Mo_isNeeded N t τ1 v2 (τ1 (t + 9) (Int32.toNatClampNeg v2))) fun r4 τ5 => (if r4 = 0 then ogd (inb v2 256) (ilet (upR τ5 (t + 8) (upd (τ5 (t + 8)) (Int32.toNatClampNeg v2) (nz 0))) fun τ6 => ilet (v2 + 1) fun x7 => k2 τ6 v1 x7) else ogd (inb v2 256) (ilet (upR τ5 (t + 8) (upd (τ5 (t + 8)) (Int32.toNatClampNeg v2) (nz 1))) fun τ8 => ilet (v2 + 1) fun x9 => k2 τ8 v1 x9)))))
def f_Mo_dues_J35 (N t : Nat) (k2 : Hp → Int32 → Int32 → OR) (τ : Hp) (v1 v2 w0 : Int32) : OR := (if w0 = 0 then f_Mo_dues_J55 N t k2 τ v1 v2 w0 0 v2 else obd (f_Mo_weightOf N t τ v2 v1) fun r1 τ2 => f_Mo_dues_J55 N t k2 τ2 v1 v2 w0 r1 v2)
def f_Mo_dues_L2b (N t : Nat) (k2 : Hp → Int32 → Int32 → OR) (τ : Hp) (v1 v2 : Int32) : OR := (if 256 ≤ v2 then some (0, τ) else obd (f_Mo_way N t τ (v2 / 32) ((v2 / 4) - (v2 / 4) / 8 * 8) (v2 - v2 / 4 * 4)) fun r1 τ2 => (if r1 = (-1) then f_Mo_dues_J35 N t k2 τ2 v1 v2 0 else f_Mo_dues_J35 N t k2 τ2 v1 v2 1))
def f_Mo_dues_L2 (N t : Nat) : Nat → Hp → Int32 → Int32 → OR
  | 0 => fun _ _ _ => none
  | n + 1 => fun τ v1 v2 => f_Mo_dues_L2b N t (f_Mo_dues_L2 N t n) τ v1 v2
def f_Mo_dues (N t : Nat) (τ : Hp) (v1 : Int32) : OR := f_Mo_dues_L2 N t N τ v1 0
def f_Mo_plan_L114b (N t : Nat) (k63 : Hp → Int32 → Int32 → OR) (k114 : Hp → Int32 → Int32 → OR) (τ : Hp) (v2 v5 : Int32) : OR := (if 8 ≤ v5 then obd (f_Mo_goesOn N t τ) fun r1 τ2 => k63 τ2 v2 r1 else ogd (inb v5 8) (ogd (inb v5 8) (ilet (upR τ (t + 13) (upd (τ (t + 13)) (Int32.toNatClampNeg v5) (τ (t + 12) (Int32.toNatClampNeg v5)))) fun τ3 => ilet (v5 + 1) fun x4 => k114 τ3 v2 x4)))
def f_Mo_plan_L114 (N t : Nat) (k63 : Hp → Int32 → Int32 → OR) : Nat → Hp → Int32 → Int32 → OR
  | 0 => fun _ _ _ => none
  | n + 1 => fun τ v2 v5 => f_Mo_plan_L114b N t k63 (f_Mo_plan_L114 N t k63 n) τ v2 v5
def f_Mo_plan_J89 (N t : Nat) (k63 : Hp → Int32 → Int32 → OR) (τ : Hp) (v2 w0 : Int32) : OR := (if w0 = (-1) then obd (f_Mo_goesOn N t τ) fun r1 τ2 => k63 τ2 v2 r1 else (if v2 = (-1) then f_Mo_plan_L114 N t k63 N τ w0 0 else (if v2 ≤ w0 then obd (f_Mo_goesOn N t τ) fun r3 τ4 => k63 τ4 v2 r3 else f_Mo_plan_L114 N t k63 N τ w0 0)))
def f_Mo_plan_J85 (N t : Nat) (k63 : Hp → Int32 → Int32 → OR) (τ : Hp) (v2 : Int32) : OR := obd (f_Mo_costs N t τ) fun r1 τ2 => f_Mo_plan_J89 N t k63 τ2 v2 r1
def f_Mo_plan_L152b (N t : Nat) (k152 : Hp → Int32 → Int32 → OR) (τ : Hp) (v2 v4 : Int32) : OR := (if 8 ≤ v4 then obd (f_Mo_costs N t τ) fun r1 τ2 => obd (f_Mo_comes N t τ2 r1) fun _ τ4 => some (v2, τ4) else ogd (inb v4 8) (ogd (inb v4 8) (ilet (upR τ (t + 12) (upd (τ (t + 12)) (Int32.toNatClampNeg v4) (τ (t + 13) (Int32.toNatClampNeg v4)))) fun τ5 => ilet (v4 + 1) fun x6 => k152 τ5 v2 x6)))
def f_Mo_plan_L152 (N t : Nat) : Nat → Hp → Int32 → Int32 → OR
  | 0 => fun _ _ _ => none
  | n + 1 => fun τ v2 v4 => f_Mo_plan_L152b N t (f_Mo_plan_L152 N t n) τ v2 v4
def f_Mo_plan_L63b (N t : Nat) (k63 : Hp → Int32 → Int32 → OR) (τ : Hp) (v2 v3 : Int32) : OR := (if v3 = 0 then f_Mo_plan_L152 N t N τ v2 0 else (if (τ t 12) = 0 then f_Mo_plan_J85 N t k63 τ v2 else obd (f_Mo_mixes N t τ) fun r1 τ2 => (if r1 = 0 then f_Mo_plan_J85 N t k63 τ2 v2 else f_Mo_plan_J89 N t k63 τ2 v2 (-1))))
def f_Mo_plan_L63 (N t : Nat) : Nat → Hp → Int32 → Int32 → OR
  | 0 => fun _ _ _ => none
  | n + 1 => fun τ v2 v3 => f_Mo_plan_L63b N t (f_Mo_plan_L63 N t n) τ v2 v3
def f_Mo_plan_L28b (N t : Nat) (k28 : Hp → Int32 → OR) (τ : Hp) (v2 : Int32) : OR := (if 8 ≤ v2 then f_Mo_plan_L63 N t N τ (-1) 1 else (if (τ t 1) ≤ v2 then ogd (inb v2 8) (ilet (upR τ (t + 12) (upd (τ (t + 12)) (Int32.toNatClampNeg v2) (-1))) fun τ1 => ilet (v2 + 1) fun x2 => k28 τ1 x2) else ogd (inb v2 8) (ilet (upR τ (t + 12) (upd (τ (t + 12)) (Int32.toNatClampNeg v2) 0)) fun τ3 => ilet (v2 + 1) fun x4 => k28 τ3 x4)))
def f_Mo_plan_L28 (N t : Nat) : Nat → Hp → Int32 → OR
  | 0 => fun _ _ => none
  | n + 1 => fun τ v2 => f_Mo_plan_L28b N t (f_Mo_plan_L28 N t n) τ v2
def f_Mo_plan (N t : Nat) (τ : Hp) (v1 : Int32) : OR := ilet (upR τ t (upd (τ t) 0 0)) fun τ1 => obd (f_Mo_isDay N τ1 v1) fun r2 τ3 => (if r2 = 0 then some ((-1), τ3) else (if (τ3 t 1) = 0 then some ((-1), τ3) else obd (f_Mo_dues N t τ3 v1) fun _ τ5 => f_Mo_plan_L28 N t N τ5 0))
def f_WP_room (N t : Nat) (τ : Hp) (v1 : Int32) : OR := obd (f_Nt_isHost N (t + 1) τ v1) fun r1 τ2 => (if r1 = 0 then some ((-1), τ2) else ogd (inb v1 8) (some (τ2 (t + 12) (Int32.toNatClampNeg v1), τ2)))
def f_Mo_room (N t : Nat) (τ : Hp) (v1 : Int32) : OR := ilet (upR τ t (upd (τ t) 0 0)) fun τ1 => obd (f_Mo_isHost N t τ1 v1) fun r2 τ3 => (if r2 = 0 then some ((-1), τ3) else ogd (inb v1 8) (some (τ3 (t + 2) (Int32.toNatClampNeg v1), τ3)))
def f_Pl_isBy (N t : Nat) (τ : Hp) (v1 v2 v3 : Int32) : OR := ogd (inb v2 8) (obd (f_WP_firstOf N τ v1) fun r1 τ2 => (if (τ (t + 2) (Int32.toNatClampNeg v2)) = r1 then ogd (inb v3 8) (obd (f_WP_secondOf N τ2 v1) fun r3 τ4 => (if (τ2 (t + 2) (Int32.toNatClampNeg v3)) = r3 then some (1, τ4) else some (0, τ4))) else some (0, τ2)))
def f_Pl_isNeedBy (N t : Nat) (τ : Hp) (v1 v2 v3 : Int32) : OR := obd (f_Pl_isBy N t τ v1 v2 v3) fun r1 τ2 => (if r1 = 0 then some (0, τ2) else obd (f_WP_pairOf N τ2 v2 v3) fun r3 τ4 => ogd (inb r3 64) (obd (f_WP_doorOf N τ4 v1) fun r5 τ6 => obd (f_WP_hasDoor N τ6 (τ4 (t + 5) (Int32.toNatClampNeg r3)) r5) fun r7 τ8 => (if r7 = 0 then some (0, τ8) else some (1, τ8))))
def f_Pl_waysBy_L13b (N t : Nat) (k4 : Hp → Int32 → Int32 → Int32 → OR) (k13 : Hp → Int32 → Int32 → Int32 → Int32 → OR) (τ : Hp) (v1 v2 v3 v4 : Int32) : OR := (if 8 ≤ v4 then ilet (v3 + 1) fun x1 => k4 τ v1 v2 x1 else obd (f_Pl_isNeedBy N t τ v1 v3 v4) fun r2 τ3 => (if r2 = 0 then ilet (v4 + 1) fun x4 => k13 τ3 v1 v2 v3 x4 else ilet (v2 + 1) fun x5 => ilet (v4 + 1) fun x6 => k13 τ3 v1 x5 v3 x6))
def f_Pl_waysBy_L13 (N t : Nat) (k4 : Hp → Int32 → Int32 → Int32 → OR) : Nat → Hp → Int32 → Int32 → Int32 → Int32 → OR
  | 0 => fun _ _ _ _ _ => none
  | n + 1 => fun τ v1 v2 v3 v4 => f_Pl_waysBy_L13b N t k4 (f_Pl_waysBy_L13 N t k4 n) τ v1 v2 v3 v4
def f_Pl_waysBy_L4b (N t : Nat) (k4 : Hp → Int32 → Int32 → Int32 → OR) (τ : Hp) (v1 v2 v3 : Int32) : OR := (if 8 ≤ v3 then some (v2, τ) else f_Pl_waysBy_L13 N t k4 N τ v1 v2 v3 0)
def f_Pl_waysBy_L4 (N t : Nat) : Nat → Hp → Int32 → Int32 → Int32 → OR
  | 0 => fun _ _ _ _ => none
  | n + 1 => fun τ v1 v2 v3 => f_Pl_waysBy_L4b N t (f_Pl_waysBy_L4 N t n) τ v1 v2 v3
def f_Pl_waysBy (N t : Nat) (τ : Hp) (v1 : Int32) : OR := f_Pl_waysBy_L4 N t N τ v1 0 0
def f_Pl_weightBy_L15b (N t : Nat) (k5 : Hp → Int32 → Int32 → Int32 → Int32 → OR) (k15 : Hp → Int32 → Int32 → Int32 → Int32 → Int32 → OR) (τ : Hp) (v1 v2 v3 v4 v5 : Int32) : OR := (if 8 ≤ v5 then ilet (v4 + 1) fun x1 => k5 τ v1 v2 v3 x1 else obd (f_Pl_isNeedBy N t τ v1 v4 v5) fun r2 τ3 => (if r2 = 0 then ilet (v5 + 1) fun x4 => k15 τ3 v1 v2 v3 v4 x4 else obd (f_WP_doorOf N τ3 v1) fun r5 τ6 => obd (f_WP_wayOf N τ6 v4 v5 r5) fun r7 τ8 => ogd (inb r7 256) (ilet (v3 + (imax v2 (τ8 (t + 6) (Int32.toNatClampNeg r7)))) fun x9 => ilet (v5 + 1) fun x10 => k15 τ8 v1 v2 x9 v4 x10)))
def f_Pl_weightBy_L15 (N t : Nat) (k5 : Hp → Int32 → Int32 → Int32 → Int32 → OR) : Nat → Hp → Int32 → Int32 → Int32 → Int32 → Int32 → OR
  | 0 => fun _ _ _ _ _ _ => none
  | n + 1 => fun τ v1 v2 v3 v4 v5 => f_Pl_weightBy_L15b N t k5 (f_Pl_weightBy_L15 N t k5 n) τ v1 v2 v3 v4 v5
def f_Pl_weightBy_L5b (N t : Nat) (k5 : Hp → Int32 → Int32 → Int32 → Int32 → OR) (τ : Hp) (v1 v2 v3 v4 : Int32) : OR := (if 8 ≤ v4 then some (v3, τ) else f_Pl_weightBy_L15 N t k5 N τ v1 v2 v3 v4 0)
def f_Pl_weightBy_L5 (N t : Nat) : Nat → Hp → Int32 → Int32 → Int32 → Int32 → OR
  | 0 => fun _ _ _ _ _ => none
  | n + 1 => fun τ v1 v2 v3 v4 => f_Pl_weightBy_L5b N t (f_Pl_weightBy_L5 N t n) τ v1 v2 v3 v4
def f_Pl_weightBy (N t : Nat) (τ : Hp) (v1 v2 : Int32) : OR := f_Pl_weightBy_L5 N t N τ v1 v2 0 0
def f_Pl_isMustBy_L11b (N t q2 : Nat) (k2 : Hp → Int32 → Int32 → OR) (k11 : Hp → Int32 → Int32 → Int32 → OR) (τ : Hp) (v1 v3 v4 : Int32) : OR := (if 8 ≤ v4 then ilet (v3 + 1) fun x1 => k2 τ v1 x1 else obd (f_Pl_isBy N t τ v1 v3 v4) fun r2 τ3 => (if r2 = 0 then ilet (v4 + 1) fun x4 => k11 τ3 v1 v3 x4 else obd (f_WP_pairOf N τ3 v3 v4) fun r5 τ6 => ogd (inb r5 64) (obd (f_WP_doorOf N τ6 v1) fun r7 τ8 => obd (f_WP_hasDoor N τ8 (τ6 q2 (Int32.toNatClampNeg r5)) r7) fun r9 τ10 => (if r9 = 0 then ilet (v4 + 1) fun x11 => k11 τ10 v1 v3 x11 else some (1, τ10)))))
def f_Pl_isMustBy_L11 (N t q2 : Nat) (k2 : Hp → Int32 → Int32 → OR) : Nat → Hp → Int32 → Int32 → Int32 → OR
  | 0 => fun _ _ _ _ => none
  | n + 1 => fun τ v1 v3 v4 => f_Pl_isMustBy_L11b N t q2 k2 (f_Pl_isMustBy_L11 N t q2 k2 n) τ v1 v3 v4
def f_Pl_isMustBy_L2b (N t q2 : Nat) (k2 : Hp → Int32 → Int32 → OR) (τ : Hp) (v1 v3 : Int32) : OR := (if 8 ≤ v3 then some (0, τ) else f_Pl_isMustBy_L11 N t q2 k2 N τ v1 v3 0)
def f_Pl_isMustBy_L2 (N t q2 : Nat) : Nat → Hp → Int32 → Int32 → OR
  | 0 => fun _ _ _ => none
  | n + 1 => fun τ v1 v3 => f_Pl_isMustBy_L2b N t q2 (f_Pl_isMustBy_L2 N t q2 n) τ v1 v3
def f_Pl_isMustBy (N t q2 : Nat) (τ : Hp) (v1 : Int32) : OR := f_Pl_isMustBy_L2 N t q2 N τ v1 0
def f_WP_rule (N t : Nat) (τ : Hp) (v1 v2 : Int32) : OR := obd (f_WP_isBetween N τ v1 0 ((τ (t + 10) 3) - 1)) fun r1 τ2 => (if r1 = 0 then some ((-1), τ2) else ogd (inb v1 224) (ilet (τ2 (t + 17) (Int32.toNatClampNeg v1)) fun x3 => (if v2 = 0 then obd (f_WP_firstOf N τ2 x3) fun r4 τ5 => some (r4, τ5) else if v2 = 1 then obd (f_WP_secondOf N τ2 x3) fun r6 τ7 => some (r6, τ7) else if v2 = 2 then obd (f_WP_doorOf N τ2 x3) fun r8 τ9 => some (r8, τ9) else if v2 = 3 then obd (f_Pl_waysBy N (t + 10) τ2 x3) fun r10 τ11 => some (r10, τ11) else if v2 = 4 then obd (f_Pl_weightBy N (t + 10) τ2 x3 0) fun r12 τ13 => some (r12, τ13) else if v2 = 5 then obd (f_Pl_isMustBy N (t + 10) (t + 3) τ2 x3) fun r14 τ15 => (if r14 = 0 then some (1, τ15) else some (0, τ15)) else some ((-1), τ2))))
def f_Mo_isBy (N t : Nat) (τ : Hp) (v1 v2 : Int32) : OR := ogd (inb (v1 / 32) 8) (ilet (τ (t + 2) (Int32.toNatClampNeg (v1 / 32))) fun x1 => ogd (inb ((v1 / 4) - (v1 / 4) / 8 * 8) 8) (ilet (τ (t + 2) (Int32.toNatClampNeg ((v1 / 4) - (v1 / 4) / 8 * 8))) fun x2 => (if x1 = (-1) then some (0, τ) else (if x2 = (-1) then some (0, τ) else (if x1 = x2 then some (0, τ) else (if (((32 * x1) + (4 * x2)) + (v1 - v1 / 4 * 4)) = v2 then some (1, τ) else some (0, τ)))))))
def f_Mo_canShut_L2b (N t : Nat) (k2 : Hp → Int32 → Int32 → OR) (τ : Hp) (v1 v2 : Int32) : OR := (if 256 ≤ v2 then some (1, τ) else ogd (inb v2 256) ((if (τ (t + 6) (Int32.toNatClampNeg v2)) = 0 then ilet (v2 + 1) fun x1 => k2 τ v1 x1 else obd (f_Mo_isBy N t τ v2 v1) fun r2 τ3 => (if r2 = 0 then ilet (v2 + 1) fun x4 => k2 τ3 v1 x4 else some (0, τ3)))))
def f_Mo_canShut_L2 (N t : Nat) : Nat → Hp → Int32 → Int32 → OR
  | 0 => fun _ _ _ => none
  | n + 1 => fun τ v1 v2 => f_Mo_canShut_L2b N t (f_Mo_canShut_L2 N t n) τ v1 v2
def f_Mo_canShut (N t : Nat) (τ : Hp) (v1 : Int32) : OR := f_Mo_canShut_L2 N t N τ v1 0
def f_Mo_ruleAt_L4b (N t : Nat) (k4 : Hp → Int32 → Int32 → Int32 → OR) (τ : Hp) (v1 v2 v3 : Int32) : OR := (if 256 ≤ v3 then some ((-1), τ) else (if v1 < 0 then some ((-1), τ) else ogd (inb v3 256) ((if (τ (t + 15) (Int32.toNatClampNeg v3)) = 0 then ilet (v3 + 1) fun x1 => k4 τ v1 v2 x1 else (if v2 = 0 then some (v3, τ) else ilet (v2 + (-1)) fun x2 => ilet (v3 + 1) fun x3 => k4 τ v1 x2 x3)))))
def f_Mo_ruleAt_L4 (N t : Nat) : Nat → Hp → Int32 → Int32 → Int32 → OR
  | 0 => fun _ _ _ _ => none
  | n + 1 => fun τ v1 v2 v3 => f_Mo_ruleAt_L4b N t (f_Mo_ruleAt_L4 N t n) τ v1 v2 v3
def f_Mo_ruleAt (N t : Nat) (τ : Hp) (v1 : Int32) : OR := f_Mo_ruleAt_L4 N t N τ v1 v1 0
def f_Mo_rule_L27b (N t : Nat) (k27 : Hp → Int32 → Int32 → Int32 → Int32 → Int32 → OR) (τ : Hp) (v2 v3 v4 v5 v6 : Int32) : OR := (if 256 ≤ v6 then (if v2 = 0 then some (v3 / 32, τ) else if v2 = 1 then some ((v3 / 4) - (v3 / 4) / 8 * 8, τ) else if v2 = 2 then some (v3 - v3 / 4 * 4, τ) else if v2 = 3 then some (v4, τ) else if v2 = 4 then some (v5, τ) else if v2 = 5 then obd (f_Mo_canShut N t τ v3) fun r1 τ2 => (if r1 = 0 then some (0, τ2) else some (1, τ2)) else some ((-1), τ)) else ogd (inb v6 256) ((if (τ (t + 10) (Int32.toNatClampNeg v6)) = 0 then ilet (v6 + 1) fun x3 => k27 τ v2 v3 v4 v5 x3 else obd (f_Mo_isBy N t τ v6 v3) fun r4 τ5 => (if r4 = 0 then ilet (v6 + 1) fun x6 => k27 τ5 v2 v3 v4 v5 x6 else ilet (v4 + 1) fun x7 => ogd (inb v6 256) (ilet (v5 + (τ5 (t + 11) (Int32.toNatClampNeg v6))) fun x8 => ilet (v6 + 1) fun x9 => k27 τ5 v2 v3 x7 x8 x9)))))
def f_Mo_rule_L27 (N t : Nat) : Nat → Hp → Int32 → Int32 → Int32 → Int32 → Int32 → OR
  | 0 => fun _ _ _ _ _ _ => none
  | n + 1 => fun τ v2 v3 v4 v5 v6 => f_Mo_rule_L27b N t (f_Mo_rule_L27 N t n) τ v2 v3 v4 v5 v6
def f_Mo_rule (N t : Nat) (τ : Hp) (v1 v2 : Int32) : OR := ilet (upR τ t (upd (τ t) 0 0)) fun τ1 => obd (f_Mo_ruleAt N t τ1 v1) fun r2 τ3 => (if r2 = (-1) then some ((-1), τ3) else f_Mo_rule_L27 N t N τ3 v2 r2 0 0 0)
def f_Ly_areIn (N t : Nat) (τ : Hp) (v1 v2 : Int32) : OR := ogd (inb v1 8) ((if (τ (t + 1) (Int32.toNatClampNeg v1)) = (-1) then some (0, τ) else ogd (inb v2 8) ((if (τ (t + 1) (Int32.toNatClampNeg v2)) = (-1) then some (0, τ) else some (1, τ)))))
def f_Ly_doorsBetween (N t : Nat) (τ : Hp) (v1 v2 : Int32) : OR := ogd (inb v1 8) (ogd (inb v2 8) (obd (f_WP_pairOf N τ (τ (t + 1) (Int32.toNatClampNeg v1)) (τ (t + 1) (Int32.toNatClampNeg v2))) fun r1 τ2 => ogd (inb r1 64) (some (τ2 (t + 2) (Int32.toNatClampNeg r1), τ2))))
def f_Ly_isLet (N t : Nat) (τ : Hp) (v1 v2 v3 : Int32) : OR := obd (f_Ly_areIn N t τ v1 v2) fun r1 τ2 => (if r1 = 0 then some (0, τ2) else obd (f_Ly_doorsBetween N t τ2 v1 v2) fun r3 τ4 => obd (f_WP_hasDoor N τ4 r3 v3) fun r5 τ6 => (if r5 = 0 then some (0, τ6) else some (1, τ6)))
def f_WP_lets (N t : Nat) (τ : Hp) (v1 v2 v3 : Int32) : OR := obd (f_Nt_isWay N (t + 1) τ v1 v2 v3) fun r1 τ2 => (if r1 = 0 then some ((-1), τ2) else obd (f_Ly_areIn N (t + 11) τ2 v1 v2) fun r3 τ4 => (if r3 = 0 then some ((-1), τ4) else obd (f_Ly_isLet N (t + 11) τ4 v1 v2 v3) fun r5 τ6 => (if r5 = 0 then some (0, τ6) else ogd (inb v1 8) (ogd (inb v2 8) ((if (τ6 (t + 12) (Int32.toNatClampNeg v1)) = (τ6 (t + 12) (Int32.toNatClampNeg v2)) then some (1, τ6) else some (2, τ6)))))))
def f_Mo_letsBy (N t : Nat) (τ : Hp) (v1 : Int32) : OR := ogd (inb (v1 / 32) 8) (ilet (τ (t + 2) (Int32.toNatClampNeg (v1 / 32))) fun x1 => ogd (inb ((v1 / 4) - (v1 / 4) / 8 * 8) 8) (ilet (τ (t + 2) (Int32.toNatClampNeg ((v1 / 4) - (v1 / 4) / 8 * 8))) fun x2 => (if x1 = x2 then some (1, τ) else ogd (inb (((32 * x1) + (4 * x2)) + (v1 - v1 / 4 * 4)) 256) ((if (τ (t + 15) (Int32.toNatClampNeg (((32 * x1) + (4 * x2)) + (v1 - v1 / 4 * 4)))) = 0 then some (0, τ) else some (2, τ))))))
def f_Mo_lets (N t : Nat) (τ : Hp) (v1 v2 v3 : Int32) : OR := ilet (upR τ t (upd (τ t) 0 0)) fun τ1 => obd (f_Mo_way N t τ1 v1 v2 v3) fun r2 τ3 => (if r2 = (-1) then some ((-1), τ3) else ogd (inb v1 8) ((if (τ3 (t + 2) (Int32.toNatClampNeg v1)) = (-1) then some ((-1), τ3) else ogd (inb v2 8) ((if (τ3 (t + 2) (Int32.toNatClampNeg v2)) = (-1) then some ((-1), τ3) else obd (f_Mo_letsBy N t τ3 r2) fun r4 τ5 => some (r4, τ5))))))
def f_Sp_chain_L12b (N t : Nat) (k2 : Hp → Int32 → OR) (k12 : Hp → Int32 → Int32 → OR) (τ : Hp) (v1 v2 : Int32) : OR := (if (τ t 2) ≤ v2 then ilet (v1 + 1) fun x1 => k2 τ x1 else ogd (inb v2 8) ((if (((τ (t + 2) (Int32.toNatClampNeg v2)) >>> (v1 &&& 31)) &&& 1) = 1 then ogd (inb v2 8) (ogd (inb v1 8) (ogd (inb v2 8) (ilet (upR τ (t + 2) (upd (τ (t + 2)) (Int32.toNatClampNeg v2) ((τ (t + 2) (Int32.toNatClampNeg v2)) ||| (τ (t + 2) (Int32.toNatClampNeg v1))))) fun τ2 => ilet (v2 + 1) fun x3 => k12 τ2 v1 x3))) else ilet (v2 + 1) fun x4 => k12 τ v1 x4)))
def f_Sp_chain_L12 (N t : Nat) (k2 : Hp → Int32 → OR) : Nat → Hp → Int32 → Int32 → OR
  | 0 => fun _ _ _ => none
  | n + 1 => fun τ v1 v2 => f_Sp_chain_L12b N t k2 (f_Sp_chain_L12 N t k2 n) τ v1 v2
def f_Sp_chain_L2b (N t : Nat) (k2 : Hp → Int32 → OR) (τ : Hp) (v1 : Int32) : OR := (if (τ t 2) ≤ v1 then some (0, τ) else f_Sp_chain_L12 N t k2 N τ v1 0)
def f_Sp_chain_L2 (N t : Nat) : Nat → Hp → Int32 → OR
  | 0 => fun _ _ => none
  | n + 1 => fun τ v1 => f_Sp_chain_L2b N t (f_Sp_chain_L2 N t n) τ v1
def f_Sp_chain (N t : Nat) (τ : Hp) : OR := f_Sp_chain_L2 N t N τ 0
def f_Sp_addRule (N t : Nat) (τ : Hp) (v1 : Int32) : OR := obd (f_WP_firstOf N τ v1) fun r1 τ2 => ogd (inb r1 8) (obd (f_WP_secondOf N τ2 v1) fun r3 τ4 => ogd (inb r1 8) (ilet (upR τ4 (t + 2) (upd (τ4 (t + 2)) (Int32.toNatClampNeg r1) ((τ2 (t + 2) (Int32.toNatClampNeg r1)) ||| (1 <<< (r3 &&& 31))))) fun τ5 => some (0, τ5)))
def f_Ly_roomCount_L4b (N t : Nat) (k4 : Hp → Int32 → Int32 → OR) (τ : Hp) (v1 v2 : Int32) : OR := (if 8 ≤ v2 then some (v1 + 1, τ) else ogd (inb v2 8) (ilet (imax v1 (τ (t + 1) (Int32.toNatClampNeg v2))) fun x1 => ilet (v2 + 1) fun x2 => k4 τ x1 x2))
def f_Ly_roomCount_L4 (N t : Nat) : Nat → Hp → Int32 → Int32 → OR
  | 0 => fun _ _ _ => none
  | n + 1 => fun τ v1 v2 => f_Ly_roomCount_L4b N t (f_Ly_roomCount_L4 N t n) τ v1 v2
def f_Ly_roomCount (N t : Nat) (τ : Hp) : OR := f_Ly_roomCount_L4 N t N τ (-1) 0
def f_Sp_begin_L40b (N t q1 : Nat) (k40 : Hp → Int32 → OR) (τ : Hp) (v2 : Int32) : OR := (if 8 ≤ v2 then some (0, τ) else ogd (inb v2 8) ((if (τ (q1 + 1) (Int32.toNatClampNeg v2)) = (-1) then ilet (v2 + 1) fun x1 => k40 τ x1 else ogd (inb v2 8) (ogd (inb (τ (q1 + 1) (Int32.toNatClampNeg v2)) 8) (ogd (inb (τ (q1 + 1) (Int32.toNatClampNeg v2)) 8) (ilet (upR τ (t + 1) (upd (τ (t + 1)) (Int32.toNatClampNeg (τ (q1 + 1) (Int32.toNatClampNeg v2))) ((τ (t + 1) (Int32.toNatClampNeg (τ (q1 + 1) (Int32.toNatClampNeg v2)))) + 1))) fun τ2 => ilet (v2 + 1) fun x3 => k40 τ2 x3))))))
def f_Sp_begin_L40 (N t q1 : Nat) : Nat → Hp → Int32 → OR
  | 0 => fun _ _ => none
  | n + 1 => fun τ v2 => f_Sp_begin_L40b N t q1 (f_Sp_begin_L40 N t q1 n) τ v2
def f_Sp_begin_L10b (N t q1 : Nat) (k10 : Hp → Int32 → OR) (τ : Hp) (v2 : Int32) : OR := (if 8 ≤ v2 then f_Sp_begin_L40 N t q1 N τ 0 else ogd (inb v2 8) (ilet (upR τ (t + 1) (upd (τ (t + 1)) (Int32.toNatClampNeg v2) 0)) fun τ1 => ogd (inb v2 8) (ilet (upR τ1 (t + 2) (upd (τ1 (t + 2)) (Int32.toNatClampNeg v2) (1 <<< (v2 &&& 31)))) fun τ2 => ilet (v2 + 1) fun x3 => k10 τ2 x3)))
def f_Sp_begin_L10 (N t q1 : Nat) : Nat → Hp → Int32 → OR
  | 0 => fun _ _ => none
  | n + 1 => fun τ v2 => f_Sp_begin_L10b N t q1 (f_Sp_begin_L10 N t q1 n) τ v2
def f_Sp_begin (N t q1 : Nat) (τ : Hp) : OR := obd (f_Ly_roomCount N q1 τ) fun r1 τ2 => ilet (upR τ2 t (upd (τ2 t) 2 r1)) fun τ3 => f_Sp_begin_L10 N t q1 N τ3 0
def f_Sp_follow_L10b (N t q1 : Nat) (k10 : Hp → Int32 → OR) (τ : Hp) (v2 : Int32) : OR := (if (τ q1 3) ≤ v2 then obd (f_Sp_chain N t τ) fun _ τ2 => some (0, τ2) else ogd (inb v2 224) (obd (f_Sp_addRule N t τ (τ (q1 + 7) (Int32.toNatClampNeg v2))) fun _ τ4 => ilet (v2 + 1) fun x5 => k10 τ4 x5))
def f_Sp_follow_L10 (N t q1 : Nat) : Nat → Hp → Int32 → OR
  | 0 => fun _ _ => none
  | n + 1 => fun τ v2 => f_Sp_follow_L10b N t q1 (f_Sp_follow_L10 N t q1 n) τ v2
def f_Sp_follow (N t q1 : Nat) (τ : Hp) : OR := obd (f_Sp_begin N t (q1 + 1) τ) fun _ τ2 => f_Sp_follow_L10 N t q1 N τ2 0
def f_Sp_othersFrom_L4b (N t : Nat) (k4 : Hp → Int32 → Int32 → Int32 → OR) (τ : Hp) (v1 v2 v3 : Int32) : OR := (if (τ t 2) ≤ v3 then some (v2 - 1, τ) else ogd (inb v1 8) ((if (((τ (t + 2) (Int32.toNatClampNeg v1)) >>> (v3 &&& 31)) &&& 1) = 1 then ogd (inb v3 8) (ilet (v2 + (τ (t + 1) (Int32.toNatClampNeg v3))) fun x1 => ilet (v3 + 1) fun x2 => k4 τ v1 x1 x2) else ilet (v3 + 1) fun x3 => k4 τ v1 v2 x3)))
def f_Sp_othersFrom_L4 (N t : Nat) : Nat → Hp → Int32 → Int32 → Int32 → OR
  | 0 => fun _ _ _ _ => none
  | n + 1 => fun τ v1 v2 v3 => f_Sp_othersFrom_L4b N t (f_Sp_othersFrom_L4 N t n) τ v1 v2 v3
def f_Sp_othersFrom (N t : Nat) (τ : Hp) (v1 : Int32) : OR := f_Sp_othersFrom_L4 N t N τ v1 0 0
def f_WP_reach (N t : Nat) (τ : Hp) (v1 : Int32) : OR := obd (f_Nt_isHost N (t + 1) τ v1) fun r1 τ2 => (if r1 = 0 then some ((-1), τ2) else ogd (inb v1 8) ((if (τ2 (t + 12) (Int32.toNatClampNeg v1)) = (-1) then some ((-1), τ2) else obd (f_Sp_follow N (t + 27) (t + 10) τ2) fun _ τ4 => ogd (inb v1 8) (obd (f_Sp_othersFrom N (t + 27) τ4 (τ4 (t + 12) (Int32.toNatClampNeg v1))) fun r5 τ6 => some (r5, τ6)))))
def f_Mo_opens_L2b (N t : Nat) (k2 : Hp → Int32 → OR) (τ : Hp) (v1 : Int32) : OR := (if 256 ≤ v1 then some (0, τ) else ogd (inb v1 256) (ilet (upR τ (t + 16) (upd (τ (t + 16)) (Int32.toNatClampNeg v1) (nz 0))) fun τ1 => ilet (v1 + 1) fun x2 => k2 τ1 x2))
def f_Mo_opens_L2 (N t : Nat) : Nat → Hp → Int32 → OR
  | 0 => fun _ _ => none
  | n + 1 => fun τ v1 => f_Mo_opens_L2b N t (f_Mo_opens_L2 N t n) τ v1
def f_Mo_opens (N t : Nat) (τ : Hp) : OR := f_Mo_opens_L2 N t N τ 0
def f_Mo_reachOf_L21b (N t : Nat) (k11 : Hp → Int32 → Int32 → Int32 → OR) (k21 : Hp → Int32 → Int32 → Int32 → Int32 → OR) (τ : Hp) (v1 v2 v4 v5 : Int32) : OR := (if 256 ≤ v5 then (if v2 = v4 then k11 τ v1 v2 0 else k11 τ v1 v2 1) else ogd (inb v5 256) ((if (τ (t + 15) (Int32.toNatClampNeg v5)) = 0 then ilet (v5 + 1) fun x1 => k21 τ v1 v2 v4 x1 else ogd (inb v5 256) ((if (τ (t + 16) (Int32.toNatClampNeg v5)) = 0 then (if ((v2 >>> ((v5 / 32) &&& 31)) &&& 1) = 1 then ilet (v2 ||| (1 <<< (((v5 / 4) - (v5 / 4) / 8 * 8) &&& 31))) fun x2 => ilet (v5 + 1) fun x3 => k21 τ v1 x2 v4 x3 else ilet (v5 + 1) fun x4 => k21 τ v1 v2 v4 x4) else ilet (v5 + 1) fun x5 => k21 τ v1 v2 v4 x5)))))
def f_Mo_reachOf_L21 (N t : Nat) (k11 : Hp → Int32 → Int32 → Int32 → OR) : Nat → Hp → Int32 → Int32 → Int32 → Int32 → OR
  | 0 => fun _ _ _ _ _ => none
  | n + 1 => fun τ v1 v2 v4 v5 => f_Mo_reachOf_L21b N t k11 (f_Mo_reachOf_L21 N t k11 n) τ v1 v2 v4 v5
def f_Mo_reachOf_L101b (N t : Nat) (k101 : Hp → Int32 → Int32 → Int32 → Int32 → OR) (τ : Hp) (v1 v2 v4 v5 : Int32) : OR := (if (τ t 1) ≤ v5 then some (v4, τ) else (if v5 = v1 then ilet (v4 + 0) fun x1 => ilet (v5 + 1) fun x2 => k101 τ v1 v2 x1 x2 else ogd (inb v5 8) ((if (τ (t + 2) (Int32.toNatClampNeg v5)) = (-1) then ilet (v4 + 0) fun x3 => ilet (v5 + 1) fun x4 => k101 τ v1 v2 x3 x4 else ogd (inb v5 8) ((if ((v2 >>> ((τ (t + 2) (Int32.toNatClampNeg v5)) &&& 31)) &&& 1) = 1 then ilet (v4 + 1) fun x5 => ilet (v5 + 1) fun x6 => k101 τ v1 v2 x5 x6 else ilet (v4 + 0) fun x7 => ilet (v5 + 1) fun x8 => k101 τ v1 v2 x7 x8))))))
def f_Mo_reachOf_L101 (N t : Nat) : Nat → Hp → Int32 → Int32 → Int32 → Int32 → OR
  | 0 => fun _ _ _ _ _ => none
  | n + 1 => fun τ v1 v2 v4 v5 => f_Mo_reachOf_L101b N t (f_Mo_reachOf_L101 N t n) τ v1 v2 v4 v5
def f_Mo_reachOf_L11b (N t : Nat) (k11 : Hp → Int32 → Int32 → Int32 → OR) (τ : Hp) (v1 v2 v3 : Int32) : OR := (if v3 = 0 then f_Mo_reachOf_L101 N t N τ v1 v2 0 0 else f_Mo_reachOf_L21 N t k11 N τ v1 v2 v2 0)
def f_Mo_reachOf_L11 (N t : Nat) : Nat → Hp → Int32 → Int32 → Int32 → OR
  | 0 => fun _ _ _ _ => none
  | n + 1 => fun τ v1 v2 v3 => f_Mo_reachOf_L11b N t (f_Mo_reachOf_L11 N t n) τ v1 v2 v3
def f_Mo_reachOf (N t : Nat) (τ : Hp) (v1 : Int32) : OR := ogd (inb v1 8) (ilet (1 <<< ((τ (t + 2) (Int32.toNatClampNeg v1)) &&& 31)) fun x1 => f_Mo_reachOf_L11 N t N τ v1 x1 1)
def f_Mo_reach (N t : Nat) (τ : Hp) (v1 : Int32) : OR := ilet (upR τ t (upd (τ t) 0 0)) fun τ1 => obd (f_Mo_isHost N t τ1 v1) fun r2 τ3 => (if r2 = 0 then some ((-1), τ3) else ogd (inb v1 8) ((if (τ3 (t + 2) (Int32.toNatClampNeg v1)) = (-1) then some ((-1), τ3) else obd (f_Mo_opens N t τ3) fun _ τ5 => obd (f_Mo_reachOf N t τ5 v1) fun r6 τ7 => some (r6, τ7))))
def f_Sp_widest_L4b (N t : Nat) (k4 : Hp → Int32 → Int32 → OR) (τ : Hp) (v1 v2 : Int32) : OR := (if (τ t 2) ≤ v2 then some (v1, τ) else obd (f_Sp_othersFrom N t τ v2) fun r1 τ2 => ilet (imax v1 r1) fun x3 => ilet (v2 + 1) fun x4 => k4 τ2 x3 x4)
def f_Sp_widest_L4 (N t : Nat) : Nat → Hp → Int32 → Int32 → OR
  | 0 => fun _ _ _ => none
  | n + 1 => fun τ v1 v2 => f_Sp_widest_L4b N t (f_Sp_widest_L4 N t n) τ v1 v2
def f_Sp_widest (N t : Nat) (τ : Hp) : OR := f_Sp_widest_L4 N t N τ (-1) 0
def f_Sp_firstWith_L2b (N t q2 : Nat) (k2 : Hp → Int32 → Int32 → OR) (τ : Hp) (v1 v3 : Int32) : OR := (if 8 ≤ v3 then some ((-1), τ) else ogd (inb v3 8) ((if (τ (q2 + 1) (Int32.toNatClampNeg v3)) = (-1) then ilet (v3 + 1) fun x1 => k2 τ v1 x1 else ogd (inb v3 8) (obd (f_Sp_othersFrom N t τ (τ (q2 + 1) (Int32.toNatClampNeg v3))) fun r2 τ3 => (if r2 = v1 then some (v3, τ3) else ilet (v3 + 1) fun x4 => k2 τ3 v1 x4)))))
def f_Sp_firstWith_L2 (N t q2 : Nat) : Nat → Hp → Int32 → Int32 → OR
  | 0 => fun _ _ _ => none
  | n + 1 => fun τ v1 v3 => f_Sp_firstWith_L2b N t q2 (f_Sp_firstWith_L2 N t q2 n) τ v1 v3
def f_Sp_firstWith (N t q2 : Nat) (τ : Hp) (v1 : Int32) : OR := f_Sp_firstWith_L2 N t q2 N τ v1 0
def f_WP_spread (N t : Nat) (τ : Hp) (v1 : Int32) : OR := (if (τ (t + 10) 5) = 0 then some ((-1), τ) else obd (f_WP_isBetween N τ v1 0 1) fun r1 τ2 => (if r1 = 0 then some ((-1), τ2) else obd (f_Sp_follow N (t + 27) (t + 10) τ2) fun _ τ4 => obd (f_Sp_widest N (t + 27) τ4) fun r5 τ6 => (if v1 = 0 then some (r5, τ6) else obd (f_Sp_firstWith N (t + 27) (t + 11) τ6 r5) fun r7 τ8 => some (r7, τ8))))
def f_Mo_spreads_L9b (N t : Nat) (k9 : Hp → Int32 → Int32 → OR) (τ : Hp) (v1 v2 : Int32) : OR := (if (τ t 1) ≤ v2 then some (v1, τ) else ogd (inb v2 8) ((if (τ (t + 2) (Int32.toNatClampNeg v2)) = (-1) then ilet (v2 + 1) fun x1 => k9 τ v1 x1 else obd (f_Mo_reachOf N t τ v2) fun r2 τ3 => (if v1 < r2 then ilet (upR τ3 t (upd (τ3 t) 28 v2)) fun τ4 => ilet (v2 + 1) fun x5 => k9 τ4 r2 x5 else ilet (v2 + 1) fun x6 => k9 τ3 v1 x6))))
def f_Mo_spreads_L9 (N t : Nat) : Nat → Hp → Int32 → Int32 → OR
  | 0 => fun _ _ _ => none
  | n + 1 => fun τ v1 v2 => f_Mo_spreads_L9b N t (f_Mo_spreads_L9 N t n) τ v1 v2
def f_Mo_spreads (N t : Nat) (τ : Hp) : OR := ilet (upR τ t (upd (τ t) 28 (-1))) fun τ1 => f_Mo_spreads_L9 N t N τ1 (-1) 0
def f_Mo_spread (N t : Nat) (τ : Hp) (v1 : Int32) : OR := ilet (upR τ t (upd (τ t) 0 0)) fun τ1 => obd (f_Mo_opens N t τ1) fun _ τ3 => obd (f_Mo_spreads N t τ3) fun r4 τ5 => (if v1 = 0 then some (r4, τ5) else (if v1 = 1 then some (τ5 t 28, τ5) else some ((-1), τ5)))
def f_Sh_choose_L7b (N t : Nat) (k7 : Hp → Int32 → Int32 → OR) (τ : Hp) (v1 v2 : Int32) : OR := (if (τ t 5) ≤ v2 then some (0, τ) else (if ((v1 >>> (v2 &&& 31)) &&& 1) = 1 then ogd (inb v2 12) (ogd (inb (τ t 7) 12) (ilet (upR τ (t + 8) (upd (τ (t + 8)) (Int32.toNatClampNeg (τ t 7)) (τ (t + 5) (Int32.toNatClampNeg v2)))) fun τ1 => ilet (upR τ1 t (upd (τ1 t) 7 ((τ1 t 7) + 1))) fun τ2 => ilet (v2 + 1) fun x3 => k7 τ2 v1 x3)) else ilet (v2 + 1) fun x4 => k7 τ v1 x4))
def f_Sh_choose_L7 (N t : Nat) : Nat → Hp → Int32 → Int32 → OR
  | 0 => fun _ _ _ => none
  | n + 1 => fun τ v1 v2 => f_Sh_choose_L7b N t (f_Sh_choose_L7 N t n) τ v1 v2
def f_Sh_choose (N t : Nat) (τ : Hp) (v1 : Int32) : OR := ilet (upR τ t (upd (τ t) 7 0)) fun τ1 => f_Sh_choose_L7 N t N τ1 v1 0
def f_Sh_tollOf_L4b (N t : Nat) (k4 : Hp → Int32 → Int32 → Int32 → OR) (τ : Hp) (v1 v2 v3 : Int32) : OR := (if (τ t 5) ≤ v3 then some (v2, τ) else (if ((v1 >>> (v3 &&& 31)) &&& 1) = 1 then ogd (inb v3 12) (ilet (v2 + (τ (t + 7) (Int32.toNatClampNeg v3))) fun x1 => ilet (v3 + 1) fun x2 => k4 τ v1 x1 x2) else ilet (v3 + 1) fun x3 => k4 τ v1 v2 x3))
def f_Sh_tollOf_L4 (N t : Nat) : Nat → Hp → Int32 → Int32 → Int32 → OR
  | 0 => fun _ _ _ _ => none
  | n + 1 => fun τ v1 v2 v3 => f_Sh_tollOf_L4b N t (f_Sh_tollOf_L4 N t n) τ v1 v2 v3
def f_Sh_tollOf (N t : Nat) (τ : Hp) (v1 : Int32) : OR := f_Sh_tollOf_L4 N t N τ v1 0 0
def f_Sh_widestWithout_L20b (N t : Nat) (k20 : Hp → Int32 → Int32 → OR) (τ : Hp) (v1 v2 : Int32) : OR := (if (τ t 5) ≤ v2 then obd (f_Sp_chain N (t + 1) τ) fun _ τ2 => obd (f_Sp_widest N (t + 1) τ2) fun r3 τ4 => some (r3, τ4) else (if ((v1 >>> (v2 &&& 31)) &&& 1) = 0 then ogd (inb v2 12) (obd (f_Sp_addRule N (t + 1) τ (τ (t + 6) (Int32.toNatClampNeg v2))) fun _ τ6 => ilet (v2 + 1) fun x7 => k20 τ6 v1 x7) else ilet (v2 + 1) fun x8 => k20 τ v1 x8))
def f_Sh_widestWithout_L20 (N t : Nat) : Nat → Hp → Int32 → Int32 → OR
  | 0 => fun _ _ _ => none
  | n + 1 => fun τ v1 v2 => f_Sh_widestWithout_L20b N t (f_Sh_widestWithout_L20 N t n) τ v1 v2
def f_Sh_widestWithout (N t : Nat) (τ : Hp) (v1 : Int32) : OR := ilet (cpR τ (t + 4) (t + 3) 8) fun τ1 => f_Sh_widestWithout_L20 N t N τ1 v1 0
def f_Sh_gatherCans_L18b (N t q1 q2 : Nat) (k18 : Hp → Int32 → OR) (τ : Hp) (v3 : Int32) : OR := (if (τ q1 3) ≤ v3 then ilet (cpR τ (t + 3) (t + 4) 8) fun τ1 => some (1, τ1) else ogd (inb v3 224) (ilet (τ (q1 + 7) (Int32.toNatClampNeg v3)) fun x2 => obd (f_Pl_isMustBy N q1 q2 τ x2) fun r3 τ4 => (if r3 = 0 then (if (τ4 t 5) < 12 then ogd (inb (τ4 t 5) 12) (ilet (upR τ4 (t + 5) (upd (τ4 (t + 5)) (Int32.toNatClampNeg (τ4 t 5)) v3)) fun τ5 => ogd (inb (τ5 t 5) 12) (ilet (upR τ5 (t + 6) (upd (τ5 (t + 6)) (Int32.toNatClampNeg (τ5 t 5)) x2)) fun τ6 => obd (f_Pl_weightBy N q1 τ6 x2 1) fun r7 τ8 => ogd (inb (τ6 t 5) 12) (ilet (upR τ8 (t + 7) (upd (τ8 (t + 7)) (Int32.toNatClampNeg (τ6 t 5)) r7)) fun τ9 => ilet (upR τ9 t (upd (τ9 t) 5 ((τ9 t 5) + 1))) fun τ10 => ilet (v3 + 1) fun x11 => k18 τ10 x11))) else some (0, τ4)) else obd (f_Sp_addRule N (t + 1) τ4 x2) fun _ τ13 => ilet (v3 + 1) fun x14 => k18 τ13 x14)))
def f_Sh_gatherCans_L18 (N t q1 q2 : Nat) : Nat → Hp → Int32 → OR
  | 0 => fun _ _ => none
  | n + 1 => fun τ v3 => f_Sh_gatherCans_L18b N t q1 q2 (f_Sh_gatherCans_L18 N t q1 q2 n) τ v3
def f_Sh_gatherCans (N t q1 q2 : Nat) (τ : Hp) : OR := ilet (upR τ t (upd (τ t) 5 0)) fun τ1 => obd (f_Sp_begin N (t + 1) (q1 + 1) τ1) fun _ τ3 => f_Sh_gatherCans_L18 N t q1 q2 N τ3 0
def f_Sh_seekSet_L51b (N t q1 q2 : Nat) (k51 : Hp → Int32 → Int32 → Int32 → Int32 → Int32 → OR) (τ : Hp) (v3 v4 v5 v6 v7 : Int32) : OR := (if v4 ≤ v7 then obd (f_Sh_choose N t τ v5) fun _ τ2 => some (v6, τ2) else obd (f_Sh_tollOf N t τ v7) fun r3 τ4 => (if v6 ≤ r3 then ilet (v7 + 1) fun x5 => k51 τ4 v3 v4 v5 v6 x5 else obd (f_Sh_widestWithout N t τ4 v7) fun r6 τ7 => (if v3 < r6 then ilet (v7 + 1) fun x8 => k51 τ7 v3 v4 v5 v6 x8 else ilet (v7 + 1) fun x9 => k51 τ7 v3 v4 v7 r3 x9)))
def f_Sh_seekSet_L51 (N t q1 q2 : Nat) : Nat → Hp → Int32 → Int32 → Int32 → Int32 → Int32 → OR
  | 0 => fun _ _ _ _ _ _ => none
  | n + 1 => fun τ v3 v4 v5 v6 v7 => f_Sh_seekSet_L51b N t q1 q2 (f_Sh_seekSet_L51 N t q1 q2 n) τ v3 v4 v5 v6 v7
def f_Sh_seekSet (N t q1 q2 : Nat) (τ : Hp) (v3 : Int32) : OR := obd (f_Sh_gatherCans N t q1 q2 τ) fun r1 τ2 => (if r1 = 0 then some ((-2), τ2) else ilet (1 <<< ((τ2 t 5) &&& 31)) fun x3 => obd (f_Sh_widestWithout N t τ2 (x3 - 1)) fun r4 τ5 => (if r4 ≤ v3 then ilet (x3 - 1) fun x6 => obd (f_Sh_tollOf N t τ5 x6) fun r7 τ8 => f_Sh_seekSet_L51 N t q1 q2 N τ8 v3 x3 x6 r7 0 else some ((-1), τ5)))
def f_WP_shut (N t : Nat) (τ : Hp) (v1 : Int32) : OR := (if (τ (t + 10) 5) = 0 then some ((-1), τ) else obd (f_WP_isBetween N τ v1 0 8) fun r1 τ2 => (if r1 = 0 then some ((-1), τ2) else obd (f_Sh_seekSet N (t + 30) (t + 10) (t + 3) τ2 v1) fun r3 τ4 => some (r3, τ4)))
def f_Mo_shut_L95b (N t : Nat) (k31 : Hp → Int32 → Int32 → Int32 → Int32 → OR) (k95 : Hp → Int32 → Int32 → Int32 → Int32 → Int32 → OR) (τ : Hp) (v1 v2 v3 v4 v5 : Int32) : OR := (if 256 ≤ v5 then ilet (v2 + 1) fun x1 => ilet (v3 + 1) fun x2 => ilet (v4 + 1) fun x3 => k31 τ v1 x1 x2 x3 else ogd (inb v5 256) ((if (τ (t + 10) (Int32.toNatClampNeg v5)) = 0 then ilet (v5 + 1) fun x4 => k95 τ v1 v2 v3 v4 x4 else obd (f_Mo_isBy N t τ v5 v4) fun r5 τ6 => (if r5 = 0 then ilet (v5 + 1) fun x7 => k95 τ6 v1 v2 v3 v4 x7 else ogd (inb v2 12) (ogd (inb v5 256) (ogd (inb v2 12) (ilet (upR τ6 (t + 18) (upd (τ6 (t + 18)) (Int32.toNatClampNeg v2) ((τ6 (t + 18) (Int32.toNatClampNeg v2)) + (imax 1 (τ6 (t + 11) (Int32.toNatClampNeg v5)))))) fun τ8 => ilet (v5 + 1) fun x9 => k95 τ8 v1 v2 v3 v4 x9)))))))
def f_Mo_shut_L95 (N t : Nat) (k31 : Hp → Int32 → Int32 → Int32 → Int32 → OR) : Nat → Hp → Int32 → Int32 → Int32 → Int32 → Int32 → OR
  | 0 => fun _ _ _ _ _ _ => none
  | n + 1 => fun τ v1 v2 v3 v4 v5 => f_Mo_shut_L95b N t k31 (f_Mo_shut_L95 N t k31 n) τ v1 v2 v3 v4 v5
def f_Mo_shut_L186b (N t : Nat) (k168 : Hp → Int32 → Int32 → Int32 → Int32 → OR) (k186 : Hp → Int32 → Int32 → Int32 → Int32 → Int32 → Int32 → OR) (τ : Hp) (v1 v2 v4 v5 v6 v7 : Int32) : OR := (if v2 ≤ v7 then (if v4 = (-1) then obd (f_Mo_spreads N t τ) fun r1 τ2 => (if r1 ≤ v1 then ilet (upR τ2 t (upd (τ2 t) 32 v5)) fun τ3 => ilet (v5 + 1) fun x4 => k168 τ3 v1 v2 v6 x4 else ilet (v5 + 1) fun x5 => k168 τ2 v1 v2 v4 x5) else (if v4 ≤ v6 then ilet (v5 + 1) fun x6 => k168 τ v1 v2 v4 x6 else obd (f_Mo_spreads N t τ) fun r7 τ8 => (if r7 ≤ v1 then ilet (upR τ8 t (upd (τ8 t) 32 v5)) fun τ9 => ilet (v5 + 1) fun x10 => k168 τ9 v1 v2 v6 x10 else ilet (v5 + 1) fun x11 => k168 τ8 v1 v2 v4 x11))) else (if ((v5 >>> (v7 &&& 31)) &&& 1) = 0 then ilet (v7 + 1) fun x12 => k186 τ v1 v2 v4 v5 v6 x12 else ogd (inb v7 12) (ogd (inb (τ (t + 17) (Int32.toNatClampNeg v7)) 256) (ilet (upR τ (t + 16) (upd (τ (t + 16)) (Int32.toNatClampNeg (τ (t + 17) (Int32.toNatClampNeg v7))) (nz 1))) fun τ13 => ogd (inb v7 12) (ilet (v6 + (τ13 (t + 18) (Int32.toNatClampNeg v7))) fun x14 => ilet (v7 + 1) fun x15 => k186 τ13 v1 v2 v4 v5 x14 x15)))))
def f_Mo_shut_L186 (N t : Nat) (k168 : Hp → Int32 → Int32 → Int32 → Int32 → OR) : Nat → Hp → Int32 → Int32 → Int32 → Int32 → Int32 → Int32 → OR
  | 0 => fun _ _ _ _ _ _ _ => none
  | n + 1 => fun τ v1 v2 v4 v5 v6 v7 => f_Mo_shut_L186b N t k168 (f_Mo_shut_L186 N t k168 n) τ v1 v2 v4 v5 v6 v7
def f_Mo_shut_L292b (N t : Nat) (k292 : Hp → Int32 → Int32 → Int32 → OR) (τ : Hp) (v2 v4 v5 : Int32) : OR := (if v2 ≤ v5 then some (v4, τ) else (if (((τ t 32) >>> (v5 &&& 31)) &&& 1) = 0 then ilet (v5 + 1) fun x1 => k292 τ v2 v4 x1 else ogd (inb v5 12) (ogd (inb (τ t 34) 12) (ilet (upR τ (t + 20) (upd (τ (t + 20)) (Int32.toNatClampNeg (τ t 34)) (τ (t + 19) (Int32.toNatClampNeg v5)))) fun τ2 => ilet (upR τ2 t (upd (τ2 t) 34 ((τ2 t 34) + 1))) fun τ3 => ilet (v5 + 1) fun x4 => k292 τ3 v2 v4 x4))))
def f_Mo_shut_L292 (N t : Nat) : Nat → Hp → Int32 → Int32 → Int32 → OR
  | 0 => fun _ _ _ _ => none
  | n + 1 => fun τ v2 v4 v5 => f_Mo_shut_L292b N t (f_Mo_shut_L292 N t n) τ v2 v4 v5
def f_Mo_shut_L168b (N t : Nat) (k168 : Hp → Int32 → Int32 → Int32 → Int32 → OR) (τ : Hp) (v1 v2 v4 v5 : Int32) : OR := (if (1 <<< (v2 &&& 31)) ≤ v5 then (if v4 = (-1) then some ((-1), τ) else ilet (upR τ t (upd (τ t) 34 0)) fun τ1 => f_Mo_shut_L292 N t N τ1 v2 v4 0) else obd (f_Mo_opens N t τ) fun _ τ3 => f_Mo_shut_L186 N t k168 N τ3 v1 v2 v4 v5 0 0)
def f_Mo_shut_L168 (N t : Nat) : Nat → Hp → Int32 → Int32 → Int32 → Int32 → OR
  | 0 => fun _ _ _ _ _ => none
  | n + 1 => fun τ v1 v2 v4 v5 => f_Mo_shut_L168b N t (f_Mo_shut_L168 N t n) τ v1 v2 v4 v5
def f_Mo_shut_L31b (N t : Nat) (k31 : Hp → Int32 → Int32 → Int32 → Int32 → OR) (τ : Hp) (v1 v2 v3 v4 : Int32) : OR := (if 256 ≤ v4 then f_Mo_shut_L168 N t N τ v1 v2 (-1) 0 else ogd (inb v4 256) ((if (τ (t + 15) (Int32.toNatClampNeg v4)) = 0 then ilet (v4 + 1) fun x1 => k31 τ v1 v2 v3 x1 else obd (f_Mo_canShut N t τ v4) fun r2 τ3 => (if r2 = 0 then ilet (v3 + 1) fun x4 => ilet (v4 + 1) fun x5 => k31 τ3 v1 v2 x4 x5 else (if v2 = 12 then some ((-2), τ3) else ogd (inb v2 12) (ilet (upR τ3 (t + 17) (upd (τ3 (t + 17)) (Int32.toNatClampNeg v2) v4)) fun τ6 => ogd (inb v2 12) (ilet (upR τ6 (t + 19) (upd (τ6 (t + 19)) (Int32.toNatClampNeg v2) v3)) fun τ7 => ogd (inb v2 12) (ilet (upR τ7 (t + 18) (upd (τ7 (t + 18)) (Int32.toNatClampNeg v2) 0)) fun τ8 => f_Mo_shut_L95 N t k31 N τ8 v1 v2 v3 v4 0))))))))
def f_Mo_shut_L31 (N t : Nat) : Nat → Hp → Int32 → Int32 → Int32 → Int32 → OR
  | 0 => fun _ _ _ _ _ => none
  | n + 1 => fun τ v1 v2 v3 v4 => f_Mo_shut_L31b N t (f_Mo_shut_L31 N t n) τ v1 v2 v3 v4
def f_Mo_shut (N t : Nat) (τ : Hp) (v1 : Int32) : OR := ilet (upR τ t (upd (τ t) 0 0)) fun τ1 => (if v1 < 0 then some ((-1), τ1) else (if 8 < v1 then some ((-1), τ1) else (if (τ1 t 19) = 0 then some ((-1), τ1) else f_Mo_shut_L31 N t N τ1 v1 0 0 0)))
def f_WP_shutting (N t : Nat) (τ : Hp) (v1 : Int32) : OR := obd (f_WP_isBetween N τ v1 0 ((τ (t + 30) 7) - 1)) fun r1 τ2 => (if r1 = 0 then some ((-1), τ2) else ogd (inb v1 12) (some (τ2 (t + 38) (Int32.toNatClampNeg v1), τ2)))
def f_Mo_shutting (N t : Nat) (τ : Hp) (v1 : Int32) : OR := ilet (upR τ t (upd (τ t) 0 0)) fun τ1 => (if v1 < 0 then some ((-1), τ1) else (if v1 < (τ1 t 34) then ogd (inb v1 12) (some (τ1 (t + 20) (Int32.toNatClampNeg v1), τ1)) else some ((-1), τ1)))
def f_Od_nearnessOf_J35 (N q1 : Nat) (τ : Hp) (v0 v2 v3 w0 : Int32) : OR := obd (f_Ly_doorsBetween N q1 τ v3 v2) fun r1 τ2 => obd (f_WP_doorOf N τ2 v0) fun r3 τ4 => obd (f_WP_hasDoor N τ4 r1 r3) fun r5 τ6 => (if r5 = 0 then some (w0 + 0, τ6) else some (w0 + 2, τ6))
def f_Od_nearnessOf (N q1 : Nat) (τ : Hp) (v0 : Int32) : OR := obd (f_WP_firstOf N τ v0) fun r1 τ2 => obd (f_WP_secondOf N τ2 v0) fun r3 τ4 => obd (f_Ly_areIn N q1 τ4 r1 r3) fun r5 τ6 => (if r5 = 0 then some (0, τ6) else obd (f_Ly_doorsBetween N q1 τ6 r1 r3) fun r7 τ8 => (if r7 = 0 then f_Od_nearnessOf_J35 N q1 τ8 v0 r1 r3 0 else f_Od_nearnessOf_J35 N q1 τ8 v0 r1 r3 1))
def f_Od_gather_L8b (N t q1 q2 : Nat) (k8 : Hp → Int32 → Int32 → OR) (τ : Hp) (v3 v4 : Int32) : OR := (if (τ q1 3) ≤ v4 then some (0, τ) else ogd (inb v4 300) (ilet (τ (q1 + 1) (Int32.toNatClampNeg v4)) fun x1 => ogd (inb v4 300) ((if (τ (q1 + 2) (Int32.toNatClampNeg v4)) = v3 then obd (f_WP_firstOf N τ x1) fun r2 τ3 => obd (f_WP_secondOf N τ3 x1) fun r4 τ5 => obd (f_WP_doorOf N τ5 x1) fun r6 τ7 => obd (f_Ly_isLet N q2 τ7 r2 r4 r6) fun r8 τ9 => (if r8 = 0 then ogd (inb (τ9 t 2) 300) (ilet (upR τ9 (t + 1) (upd (τ9 (t + 1)) (Int32.toNatClampNeg (τ9 t 2)) v4)) fun τ10 => obd (f_Od_nearnessOf N q2 τ10 x1) fun r11 τ12 => ogd (inb (τ10 t 2) 300) (ilet (upR τ12 (t + 2) (upd (τ12 (t + 2)) (Int32.toNatClampNeg (τ10 t 2)) r11)) fun τ13 => ilet (upR τ13 t (upd (τ13 t) 2 ((τ13 t 2) + 1))) fun τ14 => ilet (v4 + 1) fun x15 => k8 τ14 v3 x15)) else ilet (v4 + 1) fun x16 => k8 τ9 v3 x16) else ilet (v4 + 1) fun x17 => k8 τ v3 x17))))
def f_Od_gather_L8 (N t q1 q2 : Nat) : Nat → Hp → Int32 → Int32 → OR
  | 0 => fun _ _ _ => none
  | n + 1 => fun τ v3 v4 => f_Od_gather_L8b N t q1 q2 (f_Od_gather_L8 N t q1 q2 n) τ v3 v4
def f_Od_gather (N t q1 q2 : Nat) (τ : Hp) (v3 : Int32) : OR := ilet (upR τ t (upd (τ t) 2 0)) fun τ1 => f_Od_gather_L8 N t q1 q2 N τ1 v3 0
def f_WP_odd (N t : Nat) (τ : Hp) (v1 : Int32) : OR := (if (τ (t + 10) 5) = 0 then some ((-1), τ) else obd (f_WP_isDay N τ v1) fun r1 τ2 => (if r1 = 0 then some ((-1), τ2) else obd (f_Od_gather N (t + 39) (t + 6) (t + 11) τ2 v1) fun _ τ4 => some (τ4 (t + 39) 2, τ4)))
def f_Mo_nearOf_L28b (N t : Nat) (k28 : Hp → Int32 → Int32 → Int32 → Int32 → Int32 → OR) (τ : Hp) (v1 v2 v3 v4 v5 : Int32) : OR := (if 4 ≤ v5 then ogd (inb (((32 * v3) + (4 * v2)) + (v1 - v1 / 4 * 4)) 256) ((if (τ (t + 15) (Int32.toNatClampNeg (((32 * v3) + (4 * v2)) + (v1 - v1 / 4 * 4)))) = 0 then some (v4 + 0, τ) else some (v4 + 2, τ))) else (if v5 = (v1 - v1 / 4 * 4) then ilet (v5 + 1) fun x1 => k28 τ v1 v2 v3 v4 x1 else ogd (inb (((32 * v2) + (4 * v3)) + v5) 256) ((if (τ (t + 15) (Int32.toNatClampNeg (((32 * v2) + (4 * v3)) + v5))) = 0 then ilet (v5 + 1) fun x2 => k28 τ v1 v2 v3 v4 x2 else ilet (v5 + 1) fun x3 => k28 τ v1 v2 v3 1 x3))))
def f_Mo_nearOf_L28 (N t : Nat) : Nat → Hp → Int32 → Int32 → Int32 → Int32 → Int32 → OR
  | 0 => fun _ _ _ _ _ _ => none
  | n + 1 => fun τ v1 v2 v3 v4 v5 => f_Mo_nearOf_L28b N t (f_Mo_nearOf_L28 N t n) τ v1 v2 v3 v4 v5
def f_Mo_nearOf (N t : Nat) (τ : Hp) (v1 : Int32) : OR := ogd (inb (v1 / 32) 8) (ilet (τ (t + 2) (Int32.toNatClampNeg (v1 / 32))) fun x1 => ogd (inb ((v1 / 4) - (v1 / 4) / 8 * 8) 8) (ilet (τ (t + 2) (Int32.toNatClampNeg ((v1 / 4) - (v1 / 4) / 8 * 8))) fun x2 => f_Mo_nearOf_L28 N t N τ v1 x1 x2 0 0))
def f_Mo_odd_J107 (N t : Nat) (k28 : Hp → Int32 → Int32 → OR) (τ : Hp) (v1 v2 v3 v4 : Int32) : OR := ogd (inb (τ t 38) 300) (ilet (upR τ (t + 21) (upd (τ (t + 21)) (Int32.toNatClampNeg (τ t 38)) v3)) fun τ1 => ogd (inb v2 300) (ogd (inb (τ1 t 38) 300) (ilet (upR τ1 (t + 22) (upd (τ1 (t + 22)) (Int32.toNatClampNeg (τ1 t 38)) (τ1 (t + 5) (Int32.toNatClampNeg v2)))) fun τ2 => (if v4 = 0 then ogd (inb (τ2 t 38) 300) (ilet (upR τ2 (t + 23) (upd (τ2 (t + 23)) (Int32.toNatClampNeg (τ2 t 38)) 0)) fun τ3 => ilet (upR τ3 t (upd (τ3 t) 38 ((τ3 t 38) + 1))) fun τ4 => ilet (v2 + 1) fun x5 => k28 τ4 v1 x5) else obd (f_Mo_nearOf N t τ2 v3) fun r6 τ7 => ogd (inb (τ2 t 38) 300) (ilet (upR τ7 (t + 23) (upd (τ7 (t + 23)) (Int32.toNatClampNeg (τ2 t 38)) r6)) fun τ8 => ilet (upR τ8 t (upd (τ8 t) 38 ((τ8 t 38) + 1))) fun τ9 => ilet (v2 + 1) fun x10 => k28 τ9 v1 x10)))))
def f_Mo_odd_J89 (N t : Nat) (k28 : Hp → Int32 → Int32 → OR) (τ : Hp) (v1 v2 v3 w0 : Int32) : OR := (if w0 = 0 then f_Mo_odd_J107 N t k28 τ v1 v2 v3 w0 else obd (f_Mo_letsBy N t τ v3) fun r1 τ2 => (if r1 ≤ 0 then f_Mo_odd_J107 N t k28 τ2 v1 v2 v3 w0 else ilet (v2 + 1) fun x3 => k28 τ2 v1 x3))
def f_Mo_odd_J88 (N t : Nat) (k28 : Hp → Int32 → Int32 → OR) (τ : Hp) (v1 v2 v3 : Int32) : OR := f_Mo_odd_J89 N t k28 τ v1 v2 v3 0
def f_Mo_odd_L28b (N t : Nat) (k28 : Hp → Int32 → Int32 → OR) (τ : Hp) (v1 v2 : Int32) : OR := (if (τ t 4) ≤ v2 then some (τ t 38, τ) else ogd (inb v2 300) ((if (τ (t + 4) (Int32.toNatClampNeg v2)) = v1 then ogd (inb v2 300) (ilet (τ (t + 3) (Int32.toNatClampNeg v2)) fun x1 => ogd (inb (x1 / 32) 8) ((if (τ (t + 2) (Int32.toNatClampNeg (x1 / 32))) = (-1) then f_Mo_odd_J88 N t k28 τ v1 v2 x1 else ogd (inb ((x1 / 4) - (x1 / 4) / 8 * 8) 8) ((if (τ (t + 2) (Int32.toNatClampNeg ((x1 / 4) - (x1 / 4) / 8 * 8))) = (-1) then f_Mo_odd_J88 N t k28 τ v1 v2 x1 else f_Mo_odd_J89 N t k28 τ v1 v2 x1 1))))) else ilet (v2 + 1) fun x2 => k28 τ v1 x2)))
def f_Mo_odd_L28 (N t : Nat) : Nat → Hp → Int32 → Int32 → OR
  | 0 => fun _ _ _ => none
  | n + 1 => fun τ v1 v2 => f_Mo_odd_L28b N t (f_Mo_odd_L28 N t n) τ v1 v2
def f_Mo_odd (N t : Nat) (τ : Hp) (v1 : Int32) : OR := ilet (upR τ t (upd (τ t) 0 0)) fun τ1 => obd (f_Mo_isDay N τ1 v1) fun r2 τ3 => (if r2 = 0 then some ((-1), τ3) else (if (τ3 t 19) = 0 then some ((-1), τ3) else ilet (upR τ3 t (upd (τ3 t) 38 0)) fun τ4 => f_Mo_odd_L28 N t N τ4 v1 0))
def f_WP_oddTalk (N t : Nat) (τ : Hp) (v1 v2 : Int32) : OR := obd (f_WP_isBetween N τ v1 0 ((τ (t + 39) 2) - 1)) fun r1 τ2 => (if r1 = 0 then some ((-1), τ2) else ogd (inb v1 300) (ilet (τ2 (t + 40) (Int32.toNatClampNeg v1)) fun x3 => (if v2 = 0 then ogd (inb x3 300) (obd (f_WP_firstOf N τ2 (τ2 (t + 7) (Int32.toNatClampNeg x3))) fun r4 τ5 => some (r4, τ5)) else if v2 = 1 then ogd (inb x3 300) (obd (f_WP_secondOf N τ2 (τ2 (t + 7) (Int32.toNatClampNeg x3))) fun r6 τ7 => some (r6, τ7)) else if v2 = 2 then ogd (inb x3 300) (obd (f_WP_doorOf N τ2 (τ2 (t + 7) (Int32.toNatClampNeg x3))) fun r8 τ9 => some (r8, τ9)) else if v2 = 3 then ogd (inb x3 300) (some (τ2 (t + 9) (Int32.toNatClampNeg x3), τ2)) else if v2 = 4 then ogd (inb v1 300) (some (τ2 (t + 41) (Int32.toNatClampNeg v1), τ2)) else some ((-1), τ2))))
def f_Mo_oddTalk (N t : Nat) (τ : Hp) (v1 v2 : Int32) : OR := ilet (upR τ t (upd (τ t) 0 0)) fun τ1 => (if v1 < 0 then some ((-1), τ1) else (if v1 < (τ1 t 38) then (if v2 = 0 then ogd (inb v1 300) (some ((τ1 (t + 21) (Int32.toNatClampNeg v1)) / 32, τ1)) else if v2 = 1 then ogd (inb v1 300) (some (((τ1 (t + 21) (Int32.toNatClampNeg v1)) / 4) - ((τ1 (t + 21) (Int32.toNatClampNeg v1)) / 4) / 8 * 8, τ1)) else if v2 = 2 then ogd (inb v1 300) (some ((τ1 (t + 21) (Int32.toNatClampNeg v1)) - (τ1 (t + 21) (Int32.toNatClampNeg v1)) / 4 * 4, τ1)) else if v2 = 3 then ogd (inb v1 300) (some (τ1 (t + 22) (Int32.toNatClampNeg v1), τ1)) else if v2 = 4 then ogd (inb v1 300) (some (τ1 (t + 23) (Int32.toNatClampNeg v1), τ1)) else some ((-1), τ1)) else some ((-1), τ1)))
def f_Sk_seekRoomFor_L35b (N t q2 q3 q4 q5 : Nat) (k35 : Hp → Int32 → Int32 → Int32 → Int32 → OR) (τ : Hp) (v1 v6 v7 v8 : Int32) : OR := (if v6 < v8 then some (v7, τ) else (if 8 ≤ v8 then some (v7, τ) else ogd (inb v1 8) (ilet (upR τ (t + 2) (upd (τ (t + 2)) (Int32.toNatClampNeg v1) v8)) fun τ1 => obd (f_Sk_isCheaper N t q3 q4 q5 τ1 v1 (τ1 q3 3)) fun r2 τ3 => (if r2 = 0 then ilet (v8 + 1) fun x4 => k35 τ3 v1 v6 v7 x4 else obd (f_Sk_keepTrial N t τ3) fun _ τ6 => ilet (v8 + 1) fun x7 => k35 τ6 v1 v6 v8 x7))))
def f_Sk_seekRoomFor_L35 (N t q2 q3 q4 q5 : Nat) : Nat → Hp → Int32 → Int32 → Int32 → Int32 → OR
  | 0 => fun _ _ _ _ _ => none
  | n + 1 => fun τ v1 v6 v7 v8 => f_Sk_seekRoomFor_L35b N t q2 q3 q4 q5 (f_Sk_seekRoomFor_L35 N t q2 q3 q4 q5 n) τ v1 v6 v7 v8
def f_Sk_seekRoomFor (N t q2 q3 q4 q5 : Nat) (τ : Hp) (v1 : Int32) : OR := ilet (upR τ t (upd (τ t) 4 2147483647)) fun τ1 => obd (f_Ly_copyRooms N (t + 1) (q2 + 2) τ1) fun _ τ3 => obd (f_Ly_roomCount N (t + 1) τ3) fun r4 τ5 => f_Sk_seekRoomFor_L35 N t q2 q3 q4 q5 N τ5 v1 r4 (-1) 0
def f_WP_place (N t : Nat) (τ : Hp) (v1 v2 : Int32) : OR := obd (f_Nt_isHost N (t + 1) τ v1) fun r1 τ2 => (if r1 = 0 then some ((-1), τ2) else obd (f_WP_isDay N τ2 v2) fun r3 τ4 => (if r3 = 0 then some ((-1), τ4) else (if (τ4 (t + 10) 5) = 0 then some ((-1), τ4) else ogd (inb v1 8) ((if (τ4 (t + 12) (Int32.toNatClampNeg v1)) = (-1) then obd (f_Nd_take N (t + 18) (t + 1) (t + 5) (t + 6) τ4 v2) fun _ τ6 => obd (f_Sk_seekRoomFor N (t + 21) (t + 10) (t + 1) (t + 5) (t + 18) τ6 v1) fun r7 τ8 => (if r7 = (-1) then some (r7, τ8) else obd (f_Pl_settle N (t + 10) (t + 26) (t + 18) (t + 1) (t + 5) τ8) fun _ τ10 => some (r7, τ10)) else some ((-1), τ4))))))
def f_Mo_putsIn_L2b (N t : Nat) (k2 : Hp → Int32 → Int32 → Int32 → OR) (τ : Hp) (v1 v2 v3 : Int32) : OR := (if 8 ≤ v3 then some (0, τ) else (if v3 = v1 then ogd (inb v3 8) (ilet (upR τ (t + 12) (upd (τ (t + 12)) (Int32.toNatClampNeg v3) v2)) fun τ1 => ilet (v3 + 1) fun x2 => k2 τ1 v1 v2 x2) else ogd (inb v3 8) (ogd (inb v3 8) (ilet (upR τ (t + 12) (upd (τ (t + 12)) (Int32.toNatClampNeg v3) (τ (t + 2) (Int32.toNatClampNeg v3)))) fun τ3 => ilet (v3 + 1) fun x4 => k2 τ3 v1 v2 x4))))
def f_Mo_putsIn_L2 (N t : Nat) : Nat → Hp → Int32 → Int32 → Int32 → OR
  | 0 => fun _ _ _ _ => none
  | n + 1 => fun τ v1 v2 v3 => f_Mo_putsIn_L2b N t (f_Mo_putsIn_L2 N t n) τ v1 v2 v3
def f_Mo_putsIn (N t : Nat) (τ : Hp) (v1 v2 : Int32) : OR := f_Mo_putsIn_L2 N t N τ v1 v2 0
def f_Mo_isUnlike_L2b (N t : Nat) (k2 : Hp → Int32 → Int32 → Int32 → OR) (τ : Hp) (v1 v2 v3 : Int32) : OR := (if (τ t 1) ≤ v3 then some (0, τ) else (if v3 = v1 then ilet (v3 + 1) fun x1 => k2 τ v1 v2 x1 else ogd (inb v3 8) ((if (τ (t + 2) (Int32.toNatClampNeg v3)) = v2 then ogd (inb v3 8) (ogd (inb v1 8) ((if (τ (t + 1) (Int32.toNatClampNeg v3)) = (τ (t + 1) (Int32.toNatClampNeg v1)) then ilet (v3 + 1) fun x2 => k2 τ v1 v2 x2 else some (1, τ)))) else ilet (v3 + 1) fun x3 => k2 τ v1 v2 x3))))
def f_Mo_isUnlike_L2 (N t : Nat) : Nat → Hp → Int32 → Int32 → Int32 → OR
  | 0 => fun _ _ _ _ => none
  | n + 1 => fun τ v1 v2 v3 => f_Mo_isUnlike_L2b N t (f_Mo_isUnlike_L2 N t n) τ v1 v2 v3
def f_Mo_isUnlike (N t : Nat) (τ : Hp) (v1 v2 : Int32) : OR := f_Mo_isUnlike_L2 N t N τ v1 v2 0
def f_Mo_roomMany_L4b (N t : Nat) (k4 : Hp → Int32 → Int32 → OR) (τ : Hp) (v1 v2 : Int32) : OR := (if 8 ≤ v2 then some (v1, τ) else ogd (inb v2 8) (ilet (imax v1 ((τ (t + 2) (Int32.toNatClampNeg v2)) + 1)) fun x1 => ilet (v2 + 1) fun x2 => k4 τ x1 x2))
def f_Mo_roomMany_L4 (N t : Nat) : Nat → Hp → Int32 → Int32 → OR
  | 0 => fun _ _ _ => none
  | n + 1 => fun τ v1 v2 => f_Mo_roomMany_L4b N t (f_Mo_roomMany_L4 N t n) τ v1 v2
def f_Mo_roomMany (N t : Nat) (τ : Hp) : OR := f_Mo_roomMany_L4 N t N τ 0 0
def f_Mo_place_J98 (N t : Nat) (k58 : Hp → Int32 → Int32 → Int32 → Int32 → Int32 → OR) (τ : Hp) (v1 v3 v4 v5 v6 : Int32) : OR := obd (f_Mo_costs N t τ) fun r1 τ2 => (if r1 = (-1) then ilet (v6 + 1) fun x3 => k58 τ2 v1 v3 v4 v5 x3 else (if v4 = (-1) then ilet (v6 + 1) fun x4 => k58 τ2 v1 v3 r1 v6 x4 else (if r1 < v4 then ilet (v6 + 1) fun x5 => k58 τ2 v1 v3 r1 v6 x5 else ilet (v6 + 1) fun x6 => k58 τ2 v1 v3 v4 v5 x6)))
def f_Mo_place_J140 (N t : Nat) (τ : Hp) (v1 v5 : Int32) : OR := (if v5 = (-1) then some ((-1), τ) else obd (f_Mo_putsIn N t τ v1 v5) fun _ τ2 => obd (f_Mo_costs N t τ2) fun r3 τ4 => obd (f_Mo_comes N t τ4 r3) fun _ τ6 => some (v5, τ6))
def f_Mo_place_L58b (N t : Nat) (k58 : Hp → Int32 → Int32 → Int32 → Int32 → Int32 → OR) (τ : Hp) (v1 v3 v4 v5 v6 : Int32) : OR := (if v3 < v6 then f_Mo_place_J140 N t τ v1 v5 else (if 8 ≤ v6 then f_Mo_place_J140 N t τ v1 v5 else obd (f_Mo_putsIn N t τ v1 v6) fun _ τ2 => (if (τ2 t 12) = 0 then f_Mo_place_J98 N t k58 τ2 v1 v3 v4 v5 v6 else obd (f_Mo_isUnlike N t τ2 v1 v6) fun r3 τ4 => (if r3 = 0 then f_Mo_place_J98 N t k58 τ4 v1 v3 v4 v5 v6 else ilet (v6 + 1) fun x5 => k58 τ4 v1 v3 v4 v5 x5))))
def f_Mo_place_L58 (N t : Nat) : Nat → Hp → Int32 → Int32 → Int32 → Int32 → Int32 → OR
  | 0 => fun _ _ _ _ _ _ => none
  | n + 1 => fun τ v1 v3 v4 v5 v6 => f_Mo_place_L58b N t (f_Mo_place_L58 N t n) τ v1 v3 v4 v5 v6
def f_Mo_place (N t : Nat) (τ : Hp) (v1 v2 : Int32) : OR := ilet (upR τ t (upd (τ t) 0 0)) fun τ1 => obd (f_Mo_isHost N t τ1 v1) fun r2 τ3 => (if r2 = 0 then some ((-1), τ3) else obd (f_Mo_isDay N τ3 v2) fun r4 τ5 => (if r4 = 0 then some ((-1), τ5) else ogd (inb v1 8) ((if (τ5 (t + 2) (Int32.toNatClampNeg v1)) = (-1) then (if (τ5 t 19) = 0 then some ((-1), τ5) else obd (f_Mo_dues N t τ5 v2) fun _ τ7 => obd (f_Mo_roomMany N t τ7) fun r8 τ9 => f_Mo_place_L58 N t N τ9 v1 r8 (-1) (-1) 0) else some ((-1), τ5)))))
def f_WP_count (N t : Nat) (τ : Hp) (v1 : Int32) : OR := (if v1 = 0 then some (τ (t + 1) 3, τ) else if v1 = 1 then some (τ (t + 6) 3, τ) else if v1 = 2 then obd (f_Ly_roomCount N (t + 11) τ) fun r1 τ2 => some (r1, τ2) else if v1 = 3 then some (τ (t + 10) 3, τ) else if v1 = 4 then some (τ (t + 11) 3, τ) else if v1 = 5 then (if (τ (t + 10) 5) = 0 then some ((-1), τ) else some (τ (t + 10) 4, τ)) else some ((-1), τ))
def f_Mo_count_L9b (N t : Nat) (k9 : Hp → Int32 → Int32 → Int32 → OR) (τ : Hp) (v1 v2 v3 : Int32) : OR := (if 256 ≤ v3 then (if v1 = 0 then some (τ t 1, τ) else if v1 = 1 then some (τ t 4, τ) else if v1 = 2 then obd (f_Mo_roomMany N t τ) fun r1 τ2 => some (r1, τ2) else if v1 = 3 then some (v2, τ) else if v1 = 4 then some (τ t 21, τ) else if v1 = 5 then (if (τ t 19) = 0 then some ((-1), τ) else some (τ t 20, τ)) else some ((-1), τ)) else ogd (inb v3 256) ((if (τ (t + 15) (Int32.toNatClampNeg v3)) = 0 then ilet (v2 + 0) fun x3 => ilet (v3 + 1) fun x4 => k9 τ v1 x3 x4 else ilet (v2 + 1) fun x5 => ilet (v3 + 1) fun x6 => k9 τ v1 x5 x6)))
def f_Mo_count_L9 (N t : Nat) : Nat → Hp → Int32 → Int32 → Int32 → OR
  | 0 => fun _ _ _ _ => none
  | n + 1 => fun τ v1 v2 v3 => f_Mo_count_L9b N t (f_Mo_count_L9 N t n) τ v1 v2 v3
def f_Mo_count (N t : Nat) (τ : Hp) (v1 : Int32) : OR := ilet (upR τ t (upd (τ t) 0 0)) fun τ1 => f_Mo_count_L9 N t N τ1 v1 0 0

/-! the mathematics of a place -/
abbrev PD : Type := Nat × Nat × Nat × (Nat → Nat) × (Nat → Nat)
def pS (d : PD) : Nat := d.1
def pC (d : PD) : Nat := d.2.1
def pn (d : PD) : Nat := d.2.2.1
def pT (d : PD) : Nat → Nat := d.2.2.2.1
def pW (d : PD) : Nat → Nat := d.2.2.2.2
def PDok (d : PD) : Prop := 1 ≤ pS d ∧ pS d ≤ 11 ∧ 1 ≤ pC d ∧ pC d ≤ 9 ∧ pn d ≤ 3 ∧ (∀ s, s < pn d → 1 ≤ pT d s) ∧ sumTo (pT d) (pn d) ≤ 11 ∧ ∀ s, s < pn d → pW d s ≤ 999
/-- how many twelfths come whose bar is above k -/
def joinN (d : PD) (b : Nat → Nat) (k : Nat) : Nat := sumTo (fun s => if k < b s then pT d s else 0) (pn d)
def upI (S : Nat) (J : Nat → Nat) (k : Nat) : Int := (if k = 0 then 12 else 12 - (S : Int)) * (J k : Int)
def dnI (S Wh : Nat) (J : Nat → Nat) (k : Nat) : Int := if k = 0 then 0 else (S : Int) * ((Wh : Int) - (J (k - 1) : Int))
/-- the weights when lengths up to m are laid -/
def wtI (u e : Nat → Int) : Nat → Nat → Int
  | 0 => fun i => if i = 0 then 1 else 0
  | m + 1 => fun i => if i = m + 1 then wtI u e m m * u m else if i ≤ m then wtI u e m i * e (m + 1) else 0
def sumI (f : Nat → Int) : Nat → Int
  | 0 => 0
  | n + 1 => sumI f n + f n
def totI (w : Nat → Int) : Int := sumI w 6
def meanI (w : Nat → Int) : Int := sumI (fun i => (i : Int) * w i) 6
def foundI (S : Nat) (w : Nat → Int) (i : Nat) : Int := (if i = 0 then 12 else 12 - (S : Int)) * w i + (S : Int) * w (i + 1)
def runW (d : PD) (b : Nat → Nat) (m : Nat) : Nat → Int := wtI (upI (pS d) (joinN d b)) (dnI (pS d) 12 (joinN d b)) m
def gainU (d : PD) (b : Nat → Nat) (w : Nat → Int) : Int := sumI (fun s => ((pT d s : Int) * (pW d s : Int)) * sumI (foundI (pS d) w) (b s)) (pn d) - 144 * (pC d : Int) * meanI w
def gainD (w : Nat → Int) : Int := 144 * totI w
def rowD (n k s : Nat) : Nat := (k / 6 ^ (n - 1 - s)) % 6
def gU (d : PD) (k : Nat) : Int := gainU d (rowD (pn d) k) (runW d (rowD (pn d) k) 5)
def gD (d : PD) (k : Nat) : Int := gainD (runW d (rowD (pn d) k) 5)
def bestI (d : PD) : Nat → Nat
  | 0 => 0
  | k + 1 => if gU d (bestI d k) * gD d k < gU d k * gD d (bestI d k) then k else bestI d k
def bestOf (d : PD) (s : Nat) : Nat := rowD (pn d) (bestI d (6 ^ pn d)) s
/-! the two systems side by side -/
def RO (M : Mm) : Prop := gi M 42 = gi M 0 ∧ gi M 27 = gi M 1 ∧ gi M 26 = gi M 2 ∧ (gi M 0 = 0 ∨ gi M 0 = 1 ∨ gi M 0 = 2)
def RS1 (M : Mm) (k : Nat) : Prop := (ga M 8 k = -1 ∧ ga M 33 k = -9) ∨ ((ga M 8 k = 0 ∨ ga M 8 k = 1 ∨ ga M 8 k = 2) ∧ ga M 33 k = ga M 8 k ∧ ∃ n, n ≤ 60 ∧ ga M 9 k = nI n ∧ ga M 34 k = nI n ∧ ∀ i, i < n → ga M 35 (60 * k + i) = ga M 10 (60 * k + i))
def RS (M : Mm) : Prop := ∀ k, k < 4 → RS1 M k
def PP (d : PD) (M : Mm) : Prop := gi M 11 = 1 ∧ gi M 28 = 1 ∧ gi M 12 = nI (pS d) ∧ gi M 29 = nI (pS d) ∧ gi M 13 = nI (pC d) ∧ gi M 30 = nI (pC d) ∧ ∀ s, s < pn d → ga M 13 s = nI (pT d s) ∧ ga M 36 s = nI (pT d s) ∧ ga M 14 s = nI (pW d s) ∧ ga M 37 s = nI (pW d s)
def PBa (n : Nat) (M : Mm) : Prop := ∃ b : Nat → Nat, ∀ s, s < n → b s ≤ 5 ∧ ga M 15 s = nI (b s) ∧ ga M 38 s = nI (b s)
def PB (M : Mm) : Prop := inI (gi M 15) 0 999 ∧ gi M 32 = gi M 15 ∧ inI (gi M 16) 0 20 ∧ gi M 33 = gi M 16 ∧ inI (gi M 17) (-20) 20 ∧ gi M 34 = gi M 17
def PG (d : PD) (M : Mm) : Prop := gi M 22 = 0 ∨ (gi M 22 = 1 ∧ ∀ s, s < pn d → ga M 25 s = nI (bestOf d s))
/-- those of the first c who stand -/
def stan (k : Nat → Int32) (c : Nat) : List Nat := (List.range c).filter (fun j => decide (k j = 1))
def PQ1 (n : Nat) (M : Mm) (j : Nat) : Prop := ga M 50 j = ga M 26 j ∧ (ga M 26 j = 0 ∨ ga M 26 j = 1 ∨ ga M 26 j = 2) ∧ ga M 49 j = ga M 27 j ∧ (∃ t, t < n ∧ ga M 27 j = nI t) ∧ ga M 51 j = ga M 28 j ∧ ga M 52 j = ga M 29 j ∧ ga M 53 j = ga M 30 j
def PL (c : Nat) (M : Mm) : Prop := (stan (ga M 26) c).length ≤ 5 ∧ gi M 24 = nI (stan (ga M 26) c).length ∧ ∀ (i x : Nat), (stan (ga M 26) c)[i]? = some x → ga M 31 i = nI x
def PQ (n c : Nat) (M : Mm) : Prop := c ≤ 40 ∧ gi M 23 = nI c ∧ gi M 40 = nI c ∧ gi M 41 = gi M 25 ∧ (∀ j, j < c → PQ1 n M j) ∧ PL c M
def RP (n : Nat) (M : Mm) : Prop := (n = 0 ∧ gi M 11 = 0 ∧ gi M 28 = 0) ∨ ∃ d, PDok d ∧ pn d = n ∧ PP d M ∧ PBa n M ∧ PB M ∧ PG d M
def Rel (M : Mm) : Prop := RO M ∧ RS M ∧ ∃ n c, n ≤ 3 ∧ gi M 14 = nI n ∧ gi M 31 = nI n ∧ PQ n c M ∧ RP n M
theorem rel_0 : Rel M0 := by
  refine ⟨⟨rfl, rfl, rfl, Or.inl rfl⟩, fun k hk => ?_, 0, 0, by decide, rfl, rfl, ⟨by decide, rfl, rfl, rfl, fun j hj => absurd hj (Nat.not_lt_zero _), by decide, rfl, fun i x h => ?_⟩, Or.inl ⟨rfl, rfl, rfl⟩⟩
  · match k, hk with
    | 0, _ => exact Or.inl ⟨rfl, rfl⟩
    | 1, _ => exact Or.inl ⟨rfl, rfl⟩
    | 2, _ => exact Or.inl ⟨rfl, rfl⟩
    | 3, _ => exact Or.inl ⟨rfl, rfl⟩
  · simp [stan] at h
/-- what is asked of a call: the class's answer is the reference's, and they go on side by side -/
abbrev okI (w : (Int32 → Mm → Prop) → Mm → Prop) (v : (Int32 → Mm → Prop) → Mm → Prop) (M : Mm) : Prop := w (fun r M1 => v (fun r2 M2 => r = r2 ∧ Rel M2) M1) M
abbrev okJ (w : (Int64 → Mm → Prop) → Mm → Prop) (v : (Int64 → Mm → Prop) → Mm → Prop) (M : Mm) : Prop := w (fun r M1 => v (fun r2 M2 => r = r2 ∧ Rel M2) M1) M

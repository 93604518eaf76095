/-! the document's course in numbers: what class and model both compute -/
def hiS (k q : Nat) : Nat := if k = 2 then 1 else if k = 3 then q / 3 else if k = 4 then 4 else if k = 5 then q / 3 - 2 else 0
def laS (k q : Nat) : Nat := if k = 1 then 12 + q else if k = 2 then 24 else if k = 3 then (12 + q) / 2 else if k = 4 then 24 + q else if k = 5 then (12 + q) / 2 else 12
def asS (k : Nat) : Nat := if k = 2 then 1 else if k = 4 then 2 else 0
def teS (k : Nat) : Nat := if k = 1 then 1 else if k = 3 then 2 else if k = 5 then 2 else 0
/-- people, notes, their numbers (1 first, 2 every, 3 reads, 4 temper; 5 kind, 6 hour, 7 thing, 8 number), what the rule in force says -/
abbrev ET : Type := Nat × Nat × (Nat → Nat → Nat) × (Nat → (Nat → Int32) → Int32)
def fc (a b h w t g : Int32) : Nat → Int32 := fun j => if j = 0 then a else if j = 1 then b else if j = 2 then h else if j = 3 then w else if j = 4 then t else g
def thB (e : ET) (n h : Nat) : Bool := decide (e.2.2.1 6 n < h) && decide (h ≤ e.2.2.1 6 n + laS (e.2.2.1 5 n) (e.2.2.1 8 n))
abbrev abP (e : ET) (n m : Nat) : Prop := hiS (e.2.2.1 5 m) (e.2.2.1 8 m) < hiS (e.2.2.1 5 n) (e.2.2.1 8 n) ∨ (hiS (e.2.2.1 5 m) (e.2.2.1 8 m) = hiS (e.2.2.1 5 n) (e.2.2.1 8 n) ∧ (e.2.2.1 6 m < e.2.2.1 6 n ∨ (e.2.2.1 6 m = e.2.2.1 6 n ∧ m < n)))
abbrev coP (e : ET) (p h : Nat) : Prop := e.2.2.1 1 p ≤ h ∧ (h - e.2.2.1 1 p) % e.2.2.1 2 p = 0
theorem ab_irr (e : ET) (n : Nat) : ¬ abP e n n := by unfold abP; omega
theorem ab_tr {e : ET} {a b c : Nat} (h : abP e a b) (h2 : abP e b c) : abP e a c := by unfold abP at *; omega
theorem ab_as {e : ET} {a b : Nat} (h : abP e a b) : ¬ abP e b a := by unfold abP at *; omega
theorem ab_tot {e : ET} {a b : Nat} (h : a ≠ b) : abP e a b ∨ abP e b a := by unfold abP; omega
/-- what was read when, taken when, done how often by whom, in all, first when, first by whom; 99: never -/
abbrev CS : Type := (Nat → Nat → Nat) × (Nat → Nat) × (Nat → Nat → Nat) × (Nat → Nat) × (Nat → Nat) × (Nat → Nat)
/-- the notes in their order from the uppermost on -/
def SP (e : ET) (u : Nat → Nat) : Prop := (∀ j, j < e.2.1 → u j < e.2.1) ∧ (∀ n, n < e.2.1 → ∃ j, j < e.2.1 ∧ u j = n) ∧ (∀ i j, i < j → j < e.2.1 → abP e (u i) (u j))
def liB (e : ET) (s : CS) (h n : Nat) : Bool := thB e n h && decide (s.2.1 n = 99)
/-- the first k of those that lie there, in that order -/
def jsB (e : ET) (u : Nat → Nat) (s : CS) (h k n : Nat) : Bool := (List.range e.2.1).any fun j => decide (u j = n) && liB e s h n && decide (fb_ct (fun i => liB e s h (u i)) j < k)
def rAS (e : ET) (u : Nat → Nat) (p h : Nat) (s : CS) : Nat → Nat → Nat := fun q n => if q = p ∧ jsB e u s h (e.2.2.1 3 p) n = true ∧ s.1 p n = 99 then h else s.1 q n
def sumS (e : ET) (f : Nat → Nat) (r : Nat → Nat) (t : Nat) : Nat := fb_sm (fun n => if e.2.2.1 7 n = t ∧ r n ≠ 99 then f (e.2.2.1 5 n) else 0) e.2.1
def actB (e : ET) (r : Nat → Nat) (p h t : Nat) : Bool := decide (e.2.2.2 0 (fc (nI (sumS e asS r t)) (nI (sumS e teS r t)) (nI h) (nI p) (nI (e.2.2.1 4 p)) (nI t)) ≠ 0)
def takB (e : ET) (p h n : Nat) : Bool := decide (e.2.2.2 1 (fc (nI (asS (e.2.2.1 5 n))) (nI (teS (e.2.2.1 5 n))) (nI h) (nI p) (nI (e.2.2.1 4 p)) (nI (e.2.2.1 7 n))) ≠ 0)
def visS (e : ET) (u : Nat → Nat) (p h : Nat) (s : CS) : CS :=
  (rAS e u p h s, fun n => if jsB e u s h (e.2.2.1 3 p) n = true ∧ takB e p h n = true then h else s.2.1 n, fun q t => if q = p ∧ actB e (rAS e u p h s p) p h t = true then s.2.2.1 q t + 1 else s.2.2.1 q t, fun t => if actB e (rAS e u p h s p) p h t = true then s.2.2.2.1 t + 1 else s.2.2.2.1 t, fun t => if actB e (rAS e u p h s p) p h t = true ∧ s.2.2.2.1 t = 0 then h else s.2.2.2.2.1 t, fun t => if actB e (rAS e u p h s p) p h t = true ∧ s.2.2.2.1 t = 0 then p else s.2.2.2.2.2 t)
def pplS (e : ET) (u : Nat → Nat) (h : Nat) (s : CS) : Nat → CS
  | 0 => s
  | p + 1 => if coP e p h then visS e u p h (pplS e u h s p) else pplS e u h s p
def CS0 : CS := (fun _ _ => 99, fun _ => 99, fun _ _ => 0, fun _ => 0, fun _ => 99, fun _ => 99)
def hrsS (e : ET) (u : Nat → Nat) : Nat → CS
  | 0 => CS0
  | h + 1 => pplS e u h (hrsS e u h) e.1
def mk (P : Nat → Bool) : Nat → Int32
  | 0 => 0
  | n + 1 => if P n = true then mk P n ||| ((1 : Int32) <<< (nI n &&& 31)) else mk P n
def lyM (e : ET) (s : CS) (h : Nat) : Int32 := mk (fun n => thB e n h && decide (h < s.2.1 n)) e.2.1
def knM (e : ET) (s : CS) (p h : Nat) : Int32 := mk (fun n => decide (s.1 p n ≤ h)) e.2.1
def hv (v : Nat) : Int32 := if v = 99 then -1 else nI v
/-- the class's rows hold a course -/
def CK (X : Mem) (e : ET) (s : CS) : Prop := (∀ h, h < 48 → X 6 h = lyM e s h) ∧ (∀ p h, p < e.1 → h < 48 → X (60 + p) h = knM e s p h) ∧ (∀ p n, p < e.1 → n < e.2.1 → X (65 + p) n = hv (s.1 p n)) ∧ (∀ t p, t < 4 → p < e.1 → X (70 + t) p = nI (s.2.2.1 p t)) ∧ (∀ t, t < 4 → X 10 t = nI (s.2.2.2.1 t) ∧ X 11 t = hv (s.2.2.2.2.1 t) ∧ X 12 t = hv (s.2.2.2.2.2 t))
/-- the model's rows hold it -/
def MK (M : Mem) (e : ET) (s : CS) : Prop := (∀ p n, p < e.1 → n < e.2.1 → M 15 (10 * p + n) = hv (s.1 p n)) ∧ (∀ n, n < e.2.1 → M 20 n = hv (s.2.1 n)) ∧ (∀ t p, t < 4 → p < e.1 → M 16 (4 * p + t) = nI (s.2.2.1 p t)) ∧ (∀ t, t < 4 → M 17 t = nI (s.2.2.2.1 t) ∧ M 18 t = hv (s.2.2.2.2.1 t) ∧ M 19 t = hv (s.2.2.2.2.2 t))
/-- the numbers are in their bounds -/
def Eok (e : ET) : Prop := e.1 ≤ 5 ∧ e.2.1 ≤ 10 ∧ (∀ p, p < e.1 → e.2.2.1 1 p < 48 ∧ 1 ≤ e.2.2.1 2 p ∧ e.2.2.1 2 p < 25 ∧ e.2.2.1 3 p < 13 ∧ e.2.2.1 4 p < 10) ∧ (∀ n, n < e.2.1 → e.2.2.1 5 n < 6 ∧ e.2.2.1 6 n < 48 ∧ e.2.2.1 7 n < 4 ∧ e.2.2.1 8 n < 10)
/-! rules: rows of steps as lists, run over a stack -/
def Seg (f : Nat → Int32) (a : Nat) (xs : List Int32) : Prop := ∀ i, i < xs.length → f (a + i) = xs.getD i 0
def stX (fa : Nat → Int32) (s : List Int32) (x : Int32) : List Int32 :=
  if x < 20000 then (if x < 10000 then x :: s else fa (x - 10000).toNatClampNeg :: s) else match s with
    | b :: a :: r => f_X5_joined x a b :: r
    | r => r
def rnX (fa : Nat → Int32) (xs : List Int32) (s : List Int32) : List Int32 := xs.foldl (stX fa) s
def opM (c a b : Int32) : Int32 := if c = -11 then (if a = 0 then (if b = 0 then 0 else 1) else 1) else if c = -12 then (if a = 0 then 0 else if b = 0 then 0 else 1) else if c = -14 then (if b ≤ a then 0 else 1) else if c = -15 then (if a = b then 1 else 0) else if c = -16 then a + b else if c = -17 then a - b else a * b
def stM (fa : Nat → Int32) (c : Int32) (s : List Int32) : Option (List Int32) :=
  if 0 ≤ c then some (c :: s) else if -7 < c then some (fa (-1 - c).toNatClampNeg :: s) else match s with
    | [] => none
    | b :: r => if c = -13 then some ((if b = 0 then 1 else 0) :: r) else if c = -19 then some ((-b) :: r) else match r with
      | [] => none
      | a :: q => some (opM c a b :: q)
def rnM (fa : Nat → Int32) : List Int32 → List Int32 → Option (List Int32)
  | [], s => some s
  | c :: cs, s => (stM fa c s).bind fun s2 => rnM fa cs s2
/-- steps that may stand in a rule -/
def okX (x : Int32) : Prop := (∃ n, n < 10000 ∧ x = nI n) ∨ (∃ j, j < 6 ∧ x = nI (10000 + j)) ∨ 20000 ≤ x
def okM (c : Int32) : Prop := (∃ n, n < 10000 ∧ c = nI n) ∨ (∃ j, j < 6 ∧ c = -nI (1 + j)) ∨ (∃ j, j < 9 ∧ c = -nI (11 + j))
/-- the rule's rows in the class, in the model -/
def RuX (X : Mem) (k : Nat) (W : Nat → (Nat → Int32) → Int32) : Prop := ∃ (xa : Nat → Nat) (xs : Nat → List Int32), xa 0 = 0 ∧ xa 3 ≤ 320 ∧ ∀ j, j < 3 → xa (j + 1) = xa j + (xs j).length ∧ X (52 + k) j = nI (xa (j + 1)) ∧ Seg (X (46 + k)) (xa j) (xs j) ∧ (∀ x ∈ xs j, okX x) ∧ ∀ fa s, rnX fa (xs j) s = W j fa :: s
def RuM (M : Mem) (k : Nat) (W : Nat → (Nat → Int32) → Int32) : Prop := ∃ (ca : Nat → Nat) (cs : Nat → List Int32), ca 3 ≤ 160 ∧ (∀ j, j < 4 → M 13 (4 * k + j) = nI (ca j)) ∧ ∀ j, j < 3 → ca (j + 1) = ca j + (cs j).length ∧ Seg (M 12) (170 * k + ca j) (cs j) ∧ (∀ x ∈ cs j, okM x) ∧ ∀ fa s, rnM fa (cs j) s = some (W j fa :: s)
/-- the class's memory, the model's, hold the table -/
def XE (X : Mem) (e : ET) (ru : Nat) : Prop := X 1 3 = nI e.1 ∧ X 1 4 = nI e.2.1 ∧ (∀ p, p < e.1 → X (25 + p) 0 = nI (e.2.2.1 1 p) ∧ X (25 + p) 1 = nI (e.2.2.1 2 p) ∧ X (25 + p) 2 = nI (e.2.2.1 3 p) ∧ X (25 + p) 3 = nI (e.2.2.1 4 p)) ∧ (∀ n, n < e.2.1 → X (30 + n) 0 = nI (e.2.2.1 5 n) ∧ X (30 + n) 1 = nI (e.2.2.1 6 n) ∧ X (30 + n) 2 = nI (e.2.2.1 7 n) ∧ X (30 + n) 3 = nI (e.2.2.1 8 n) ∧ X (30 + n) 4 = nI (hiS (e.2.2.1 5 n) (e.2.2.1 8 n)) ∧ X (30 + n) 5 = nI (laS (e.2.2.1 5 n) (e.2.2.1 8 n)) ∧ X (30 + n) 6 = nI (asS (e.2.2.1 5 n)) ∧ X (30 + n) 7 = nI (teS (e.2.2.1 5 n))) ∧ X 1 6 = nI ru ∧ ru < 6 ∧ RuX X ru e.2.2.2
def ME (M : Mem) (e : ET) (ru : Nat) : Prop := M 0 0 = nI e.1 ∧ M 0 5 = nI e.2.1 ∧ (∀ p, p < e.1 → M 1 p = nI (e.2.2.1 1 p) ∧ M 2 p = nI (e.2.2.1 2 p) ∧ M 3 p = nI (e.2.2.1 3 p) ∧ M 4 p = nI (e.2.2.1 4 p)) ∧ (∀ n, n < e.2.1 → M 5 n = nI (e.2.2.1 5 n) ∧ M 6 n = nI (e.2.2.1 6 n) ∧ M 7 n = nI (e.2.2.1 7 n) ∧ M 8 n = nI (e.2.2.1 8 n)) ∧ M 0 16 = nI ru ∧ ru < 6 ∧ RuM M ru e.2.2.2
/-- and also every rule that was read: how many, which is in force, what each says -/
abbrev DT : Type := Nat × Nat × (Nat → Nat → (Nat → Int32) → Int32)
def eW (e : ET) (W : Nat → (Nat → Int32) → Int32) : ET := (e.1, e.2.1, e.2.2.1, W)
def XD (X : Mem) (e : ET) (d : DT) : Prop := XE X (eW e (d.2.2 d.2.1)) d.2.1 ∧ d.2.1 < d.1 ∧ d.1 ≤ 6 ∧ X 1 5 = nI d.1 ∧ ∀ k, k < d.1 → RuX X k (d.2.2 k)
def MD (M : Mem) (e : ET) (d : DT) : Prop := ME M (eW e (d.2.2 d.2.1)) d.2.1 ∧ M 0 15 = nI d.1 ∧ ∀ k, k < d.1 → RuM M k (d.2.2 k)
def Rma (X M : Mem) (nn nm : Nat) : Prop := nm ≤ 20 ∧ X 85 2 = nI nm ∧ M 0 10 = nI nm ∧ ∀ i, i < nm → ∃ a b, a < nn ∧ b < nn ∧ a ≠ b ∧ X 86 i = nI a ∧ M 9 i = nI a ∧ X 87 i = nI b ∧ M 10 i = nI b
def Rta (X M : Mem) (tp : Nat) : Prop := tp ≤ 160 ∧ X 19 0 = nI tp ∧ M 0 13 = nI tp ∧ ∀ i, i < tp → ∃ c, c < 256 ∧ X 58 i = nI c ∧ M 11 i = nI c
def Rim (X M : Mem) (np nn nm nt : Nat) : Prop := (X 98 0 = 0 ∧ M 0 34 = 0) ∨ (X 98 0 = 1 ∧ M 0 34 = 1 ∧ ∃ op on om ol, op ≤ np ∧ on ≤ nn ∧ om ≤ nm ∧ ol < nt ∧ X 98 1 = nI op ∧ M 0 35 = nI op ∧ X 98 3 = nI on ∧ M 0 36 = nI on ∧ X 98 5 = nI om ∧ M 0 37 = nI om ∧ X 98 6 = nI ol ∧ M 0 38 = nI ol ∧ (∀ p, p < op → ∃ f v r t, f < 48 ∧ 1 ≤ v ∧ v < 25 ∧ r < 13 ∧ t < 10 ∧ X (101 + p) 0 = nI f ∧ M 23 p = nI f ∧ X (101 + p) 1 = nI v ∧ M 24 p = nI v ∧ X (101 + p) 2 = nI r ∧ M 25 p = nI r ∧ X (101 + p) 3 = nI t ∧ M 26 p = nI t) ∧ ∀ n, n < on → ∃ h, h < 48 ∧ X 100 n = nI h ∧ M 27 n = nI h)
def Rsh (X M : Mem) : Prop := ∀ i, i < 4 → ((X (90 + i) 1 = -1 ∧ M 28 i = -1) ∨ ∃ so sz, so < 3 ∧ sz ≤ 40 ∧ X (90 + i) 1 = nI so ∧ M 28 i = nI so ∧ X (90 + i) 2 = nI sz ∧ M 29 i = nI sz ∧ ∀ k, k < 40 → X (94 + i) k = M 30 (40 * i + k))
def Rst (X : Mem) (e : ET) : Prop := X 5 0 = 1 ∨ (X 5 0 = 0 ∧ ∃ u, SP e u ∧ CK X e (hrsS e u 48))
/-- class and model: what holds between their memories behind every call -/
def Rel (X M : Mem) : Prop := ∃ (e : ET) (d : DT) (nm tp : Nat), Eok e ∧ XD X e d ∧ MD M e d ∧ Rma X M e.2.1 nm ∧ Rta X M tp ∧ Rim X M e.1 e.2.1 nm d.1 ∧ Rsh X M ∧ Rst X (eW e (d.2.2 d.2.1))

/-! THE PURE LAYER. A heap is a layout (address to kind and length), a size, two counters, and three tables of numbers (ints, longs, references) by address and place. An instruction is a transformer (qM); a method runs (Run, part 04) if every J that is closed under its instructions (Cl) holds at its entry. -/
abbrev qA : Type := (Nat → Option (Nat × Nat)) × Nat × Nat × Nat
abbrev qS : Type := (Nat → Nat → Int32) × (Nat → Nat → Int64) × (Nat → Nat → Option Nat)
abbrev qK : Type := Option Value → qA → qS → Prop
abbrev qL : Type := List (Option Value)
abbrev qJ : Type := Nat → qL → List Value → qA → qS → Prop
abbrev qR : Type := Nat → List Value → qA → qS → qK → Prop
abbrev qM : Type := qR → qK → Nat × Nat → Nat → qL → List Value → qA → qS → qJ → Prop
def gI (S : qS) (a k : Nat) : Int32 := S.1 a k
def gL (S : qS) (a k : Nat) : Int64 := S.2.1 a k
def gR (S : qS) (a k : Nat) : Option Nat := S.2.2 a k
def uI (S : qS) (a k : Nat) (v : Int32) : qS := (fun b j => if b = a ∧ j = k then v else S.1 b j, S.2.1, S.2.2)
def uL (S : qS) (a k : Nat) (v : Int64) : qS := (S.1, fun b j => if b = a ∧ j = k then v else S.2.1 b j, S.2.2)
def uR (S : qS) (a k : Nat) (v : Option Nat) : qS := (S.1, S.2.1, fun b j => if b = a ∧ j = k then v else S.2.2 b j)
/-- a cell of zeros -/
def uZ (S : qS) (a : Nat) : qS := (fun b j => if b = a then 0 else S.1 b j, fun b j => if b = a then 0 else S.2.1 b j, fun b j => if b = a then none else S.2.2 b j)
/-- n ints are copied from (a, i) to (b, j) -/
def uC (S : qS) (a i b j n : Nat) : qS := (fun c k => if c = b ∧ j ≤ k ∧ k < j + n then S.1 a (i + (k - j)) else S.1 c k, S.2.1, S.2.2)
def bI (b : Bool) : Int32 := if b then 1 else 0
theorem gI_uI (S : qS) (a k : Nat) (v : Int32) (b j : Nat) : gI (uI S a k v) b j = if b = a ∧ j = k then v else gI S b j := rfl
theorem gL_uL (S : qS) (a k : Nat) (v : Int64) (b j : Nat) : gL (uL S a k v) b j = if b = a ∧ j = k then v else gL S b j := rfl
theorem gR_uR (S : qS) (a k : Nat) (v : Option Nat) (b j : Nat) : gR (uR S a k v) b j = if b = a ∧ j = k then v else gR S b j := rfl
theorem gI_uL (S : qS) (a k : Nat) (v : Int64) (b j : Nat) : gI (uL S a k v) b j = gI S b j := rfl
theorem gI_uR (S : qS) (a k : Nat) (v : Option Nat) (b j : Nat) : gI (uR S a k v) b j = gI S b j := rfl
theorem gL_uI (S : qS) (a k : Nat) (v : Int32) (b j : Nat) : gL (uI S a k v) b j = gL S b j := rfl
theorem gL_uR (S : qS) (a k : Nat) (v : Option Nat) (b j : Nat) : gL (uR S a k v) b j = gL S b j := rfl
theorem gR_uI (S : qS) (a k : Nat) (v : Int32) (b j : Nat) : gR (uI S a k v) b j = gR S b j := rfl
theorem gR_uL (S : qS) (a k : Nat) (v : Int64) (b j : Nat) : gR (uL S a k v) b j = gR S b j := rfl
theorem gI_uC (S : qS) (a i b j n : Nat) (c k : Nat) : gI (uC S a i b j n) c k = if c = b ∧ j ≤ k ∧ k < j + n then gI S a (i + (k - j)) else gI S c k := rfl
theorem gL_uC (S : qS) (a i b j n : Nat) (c k : Nat) : gL (uC S a i b j n) c k = gL S c k := rfl
theorem gR_uC (S : qS) (a i b j n : Nat) (c k : Nat) : gR (uC S a i b j n) c k = gR S c k := rfl
theorem gI_uZ (S : qS) (a b j : Nat) : gI (uZ S a) b j = if b = a then 0 else gI S b j := rfl
theorem gL_uZ (S : qS) (a b j : Nat) : gL (uZ S a) b j = if b = a then 0 else gL S b j := rfl
theorem gR_uZ (S : qS) (a b j : Nat) : gR (uZ S a) b j = if b = a then none else gR S b j := rfl
theorem qS_ext {S T : qS} (h1 : ∀ a k, gI S a k = gI T a k) (h2 : ∀ a k, gL S a k = gL T a k) (h3 : ∀ a k, gR S a k = gR T a k) : S = T := by
  obtain ⟨I, L, R⟩ := S
  obtain ⟨I', L', R'⟩ := T
  have e1 : I = I' := funext fun a => funext fun k => h1 a k
  have e2 : L = L' := funext fun a => funext fun k => h2 a k
  have e3 : R = R' := funext fun a => funext fun k => h3 a k
  rw [e1, e2, e3]
/-! locals -/
def lget : qL → Nat → Option Value
  | [], _ => none
  | x :: _, 0 => x
  | _ :: t, k + 1 => lget t k
def unl : Option Value → Option Value
  | some (.long _) => none
  | some (.double _) => none
  | x => x
def lset : qL → Nat → Value → qL
  | [], _, _ => []
  | _ :: t, 0, v => some v :: t
  | x :: t, 1, v => unl x :: lset t 0 v
  | x :: t, k + 2, v => x :: lset t (k + 1) v
def lset2 : qL → Nat → Value → qL
  | [], _, _ => []
  | _ :: [], 0, v => [some v]
  | _ :: _ :: t, 0, v => some v :: none :: t
  | x :: t, 1, v => unl x :: lset2 t 0 v
  | x :: t, k + 2, v => x :: lset2 t (k + 1) v
def iniA : List Value → qL
  | [] => []
  | .long x :: t => some (.long x) :: none :: iniA t
  | .double x :: t => some (.double x) :: none :: iniA t
  | v :: t => some v :: iniA t
def pad : Nat → qL → qL
  | 0, _ => []
  | n + 1, [] => none :: pad n []
  | n + 1, x :: t => x :: pad n t
def ini (n : Nat) (args : List Value) : qL := pad n (iniA args)
def wcat : List Value → Nat
  | [] => 0
  | .long _ :: t => wcat t + 2
  | .double _ :: t => wcat t + 2
  | _ :: t => wcat t + 1
/-- n values off the stack, the deepest first -/
def popn : Nat → List Value → List Value → Option (List Value × List Value)
  | 0, acc, st => some (acc, st)
  | _ + 1, _, [] => none
  | n + 1, acc, v :: st => popn n (v :: acc) st
/-! what a caller goes on with -/
def kI (A : qA) (f : Int32 → qS → Prop) : qK := fun v A' S => A' = A ∧ ∃ r, v = some (.int r) ∧ f r S
def kZ (A : qA) (f : Bool → qS → Prop) : qK := fun v A' S => A' = A ∧ ∃ b, v = some (.int (bI b)) ∧ f b S
def kL (A : qA) (f : Int64 → qS → Prop) : qK := fun v A' S => A' = A ∧ ∃ r, v = some (.long r) ∧ f r S
def kV (A : qA) (f : qS → Prop) : qK := fun v A' S => A' = A ∧ v = none ∧ f S
/-- of a callee that makes mc cells of ms slots at most -/
def kVa (c s : Nat) (f : qA → qS → Prop) : qK := fun v A' S => A'.2.2.1 = c ∧ A'.2.2.2 = s ∧ v = none ∧ f A' S
def kIa (c s : Nat) (f : Int32 → qA → qS → Prop) : qK := fun v A' S => A'.2.2.1 = c ∧ A'.2.2.2 = s ∧ ∃ r, v = some (.int r) ∧ f r A' S
theorem kI_i {A : qA} {f : Int32 → qS → Prop} {r : Int32} {S : qS} (h : f r S) : kI A f (some (.int r)) A S := ⟨rfl, r, rfl, h⟩
theorem kL_i {A : qA} {f : Int64 → qS → Prop} {r : Int64} {S : qS} (h : f r S) : kL A f (some (.long r)) A S := ⟨rfl, r, rfl, h⟩
theorem kV_i {A : qA} {f : qS → Prop} {S : qS} (h : f S) : kV A f none A S := ⟨rfl, rfl, h⟩
theorem kZ_i {A : qA} {f : Bool → qS → Prop} {b : Bool} {S : qS} (h : f b S) : kZ A f (some (.int (bI b))) A S := ⟨rfl, b, rfl, h⟩
theorem kZ_0 {A : qA} {f : Bool → qS → Prop} {S : qS} (h : f false S) : kZ A f (some (.int 0)) A S := ⟨rfl, false, rfl, h⟩
theorem kZ_1 {A : qA} {f : Bool → qS → Prop} {S : qS} (h : f true S) : kZ A f (some (.int 1)) A S := ⟨rfl, true, rfl, h⟩
/-! instructions -/
def x_stuck : qM := fun _ _ _ _ _ _ _ _ _ => False
def x_push (v : Value) (n : Nat) : qM := fun _ _ _ pc ls st A S J => J (pc + n) ls (v :: st) A S
def x_ild (k n : Nat) : qM := fun _ _ _ pc ls st A S J => match lget ls k with
  | some (.int x) => J (pc + n) ls (.int x :: st) A S
  | _ => False
def x_lld (k n : Nat) : qM := fun _ _ _ pc ls st A S J => match lget ls k with
  | some (.long x) => J (pc + n) ls (.long x :: st) A S
  | _ => False
def x_ald (k n : Nat) : qM := fun _ _ _ pc ls st A S J => match lget ls k with
  | some (.ref x) => J (pc + n) ls (.ref x :: st) A S
  | _ => False
def x_ist (k n : Nat) : qM := fun _ _ _ pc ls st A S J => match st with
  | .int x :: st => J (pc + n) (lset ls k (.int x)) st A S
  | _ => False
def x_lst (k n : Nat) : qM := fun _ _ _ pc ls st A S J => match st with
  | .long x :: st => J (pc + n) (lset2 ls k (.long x)) st A S
  | _ => False
def x_ast (k n : Nat) : qM := fun _ _ _ pc ls st A S J => match st with
  | .ref x :: st => J (pc + n) (lset ls k (.ref x)) st A S
  | _ => False
def x_iinc (k : Nat) (c : Int32) (n : Nat) : qM := fun _ _ _ pc ls st A S J => match lget ls k with
  | some (.int x) => J (pc + n) (lset ls k (.int (x + c))) st A S
  | _ => False
def x_i2 (f : Int32 → Int32 → Int32) : qM := fun _ _ _ pc ls st A S J => match st with
  | .int y :: .int x :: st => J (pc + 1) ls (.int (f x y) :: st) A S
  | _ => False
def x_i1 (f : Int32 → Int32) : qM := fun _ _ _ pc ls st A S J => match st with
  | .int x :: st => J (pc + 1) ls (.int (f x) :: st) A S
  | _ => False
def x_l2 (f : Int64 → Int64 → Int64) : qM := fun _ _ _ pc ls st A S J => match st with
  | .long y :: .long x :: st => J (pc + 1) ls (.long (f x y) :: st) A S
  | _ => False
def x_idiv : qM := fun _ _ _ pc ls st A S J => match st with
  | .int y :: .int x :: st => ¬ y = 0 ∧ J (pc + 1) ls (.int (x / y) :: st) A S
  | _ => False
def x_irem : qM := fun _ _ _ pc ls st A S J => match st with
  | .int y :: .int x :: st => ¬ y = 0 ∧ J (pc + 1) ls (.int (x - x / y * y) :: st) A S
  | _ => False
def x_ldiv : qM := fun _ _ _ pc ls st A S J => match st with
  | .long y :: .long x :: st => ¬ y = 0 ∧ J (pc + 1) ls (.long (x / y) :: st) A S
  | _ => False
def x_lrem : qM := fun _ _ _ pc ls st A S J => match st with
  | .long y :: .long x :: st => ¬ y = 0 ∧ J (pc + 1) ls (.long (x - x / y * y) :: st) A S
  | _ => False
def x_i2l : qM := fun _ _ _ pc ls st A S J => match st with
  | .int x :: st => J (pc + 1) ls (.long x.toInt64 :: st) A S
  | _ => False
def x_l2i : qM := fun _ _ _ pc ls st A S J => match st with
  | .long x :: st => J (pc + 1) ls (.int x.toInt32 :: st) A S
  | _ => False
def x_lcmp : qM := fun _ _ _ pc ls st A S J => match st with
  | .long y :: .long x :: st => J (pc + 1) ls (.int (lg_cmp x y) :: st) A S
  | _ => False
def x_dup : qM := fun _ _ _ pc ls st A S J => match st with
  | .int x :: st => J (pc + 1) ls (.int x :: .int x :: st) A S
  | .ref x :: st => J (pc + 1) ls (.ref x :: .ref x :: st) A S
  | _ => False
def x_dup2 : qM := fun _ _ _ pc ls st A S J => match st with
  | .int x :: .ref y :: st => J (pc + 1) ls (.int x :: .ref y :: .int x :: .ref y :: st) A S
  | _ => False
def x_pop : qM := fun _ _ _ pc ls st A S J => match st with
  | .int _ :: st => J (pc + 1) ls st A S
  | .ref _ :: st => J (pc + 1) ls st A S
  | _ => False
def x_if (c d : Int32 → Prop) (t : Nat) : qM := fun _ _ _ pc ls st A S J => match st with
  | .int x :: st => (c x → J t ls st A S) ∧ (d x → J (pc + 3) ls st A S)
  | _ => False
def x_ic (c d : Int32 → Int32 → Prop) (t : Nat) : qM := fun _ _ _ pc ls st A S J => match st with
  | .int y :: .int x :: st => (c x y → J t ls st A S) ∧ (d x y → J (pc + 3) ls st A S)
  | _ => False
def x_goto (t : Nat) : qM := fun _ _ _ _ ls st A S J => J t ls st A S
def x_ifnull (t : Nat) : qM := fun _ _ _ pc ls st A S J => match st with
  | .null :: st => J t ls st A S
  | .ref _ :: st => J (pc + 3) ls st A S
  | _ => False
def x_ifnonnull (t : Nat) : qM := fun _ _ _ pc ls st A S J => match st with
  | .null :: st => J (pc + 3) ls st A S
  | .ref _ :: st => J t ls st A S
  | _ => False
def swf (d : Nat) (x : Int32) (K : Nat → Prop) : List (Int32 × Nat) → Prop
  | [] => K d
  | (v, t) :: cs => (x = v → K t) ∧ (¬ x = v → swf d x K cs)
def x_sw (cs : List (Int32 × Nat)) (d : Nat) : qM := fun _ _ _ _ ls st A S J => match st with
  | .int x :: st => swf d x (fun t => J t ls st A S) cs
  | _ => False
def x_gfI (c k : Nat) : qM := fun _ _ _ pc ls st A S J => match st with
  | .ref a :: st => A.1 a = some (c, 0) ∧ J (pc + 3) ls (.int (gI S a k) :: st) A S
  | _ => False
def x_gfL (c k : Nat) : qM := fun _ _ _ pc ls st A S J => match st with
  | .ref a :: st => A.1 a = some (c, 0) ∧ J (pc + 3) ls (.long (gL S a k) :: st) A S
  | _ => False
/-- a field that isn't null here -/
def x_gfR (c k : Nat) : qM := fun _ _ _ pc ls st A S J => match st with
  | .ref a :: st => A.1 a = some (c, 0) ∧ ∃ q, gR S a k = some q ∧ J (pc + 3) ls (.ref q :: st) A S
  | _ => False
/-- a field that may be null -/
def x_gfN (c k : Nat) : qM := fun _ _ _ pc ls st A S J => match st with
  | .ref a :: st => A.1 a = some (c, 0) ∧ (gR S a k = none → J (pc + 3) ls (.null :: st) A S) ∧ ∀ q, gR S a k = some q → J (pc + 3) ls (.ref q :: st) A S
  | _ => False
def x_pfI (c k : Nat) : qM := fun _ _ _ pc ls st A S J => match st with
  | .int v :: .ref a :: st => A.1 a = some (c, 0) ∧ ∀ T, T = uI S a k v → J (pc + 3) ls st A T
  | _ => False
def x_pfZ (c k : Nat) : qM := fun _ _ _ pc ls st A S J => match st with
  | .int v :: .ref a :: st => A.1 a = some (c, 0) ∧ (v = 0 ∨ v = 1) ∧ ∀ T, T = uI S a k v → J (pc + 3) ls st A T
  | _ => False
def x_pfL (c k : Nat) : qM := fun _ _ _ pc ls st A S J => match st with
  | .long v :: .ref a :: st => A.1 a = some (c, 0) ∧ ∀ T, T = uL S a k v → J (pc + 3) ls st A T
  | _ => False
def x_pfR (c k : Nat) : qM := fun _ _ _ pc ls st A S J => match st with
  | .ref v :: .ref a :: st => A.1 a = some (c, 0) ∧ ∀ T, T = uR S a k (some v) → J (pc + 3) ls st A T
  | _ => False
def x_iald (kd : Nat) : qM := fun _ _ _ pc ls st A S J => match st with
  | .int i :: .ref a :: st => ∃ n, A.1 a = some (kd, n) ∧ vp_in i n ∧ J (pc + 1) ls (.int (gI S a i.toNatClampNeg) :: st) A S
  | _ => False
def x_lald : qM := fun _ _ _ pc ls st A S J => match st with
  | .int i :: .ref a :: st => ∃ n, A.1 a = some (14, n) ∧ vp_in i n ∧ J (pc + 1) ls (.long (gL S a i.toNatClampNeg) :: st) A S
  | _ => False
def x_aald (kd : Nat) : qM := fun _ _ _ pc ls st A S J => match st with
  | .int i :: .ref a :: st => ∃ n, A.1 a = some (kd, n) ∧ vp_in i n ∧ ∃ q, gR S a i.toNatClampNeg = some q ∧ J (pc + 1) ls (.ref q :: st) A S
  | _ => False
def x_iast : qM := fun _ _ _ pc ls st A S J => match st with
  | .int v :: .int i :: .ref a :: st => ∃ n, A.1 a = some (13, n) ∧ vp_in i n ∧ ∀ T, T = uI S a i.toNatClampNeg v → J (pc + 1) ls st A T
  | _ => False
def x_bast : qM := fun _ _ _ pc ls st A S J => match st with
  | .int v :: .int i :: .ref a :: st => ∃ n, A.1 a = some (12, n) ∧ vp_in i n ∧ ∀ T, T = uI S a i.toNatClampNeg v.toInt8.toInt32 → J (pc + 1) ls st A T
  | _ => False
def x_zast : qM := fun _ _ _ pc ls st A S J => match st with
  | .int v :: .int i :: .ref a :: st => ∃ n, A.1 a = some (15, n) ∧ vp_in i n ∧ (v = 0 ∨ v = 1) ∧ ∀ T, T = uI S a i.toNatClampNeg v → J (pc + 1) ls st A T
  | _ => False
def x_last : qM := fun _ _ _ pc ls st A S J => match st with
  | .long v :: .int i :: .ref a :: st => ∃ n, A.1 a = some (14, n) ∧ vp_in i n ∧ ∀ T, T = uL S a i.toNatClampNeg v → J (pc + 1) ls st A T
  | _ => False
def x_aast (kd kc : Nat) : qM := fun _ _ _ pc ls st A S J => match st with
  | .ref v :: .int i :: .ref a :: st => ∃ n, A.1 a = some (kd, n) ∧ vp_in i n ∧ A.1 v = some (kc, 0) ∧ ∀ T, T = uR S a i.toNatClampNeg (some v) → J (pc + 1) ls st A T
  | _ => False
def x_alen (kd : Nat) : qM := fun _ _ _ pc ls st A S J => match st with
  | .ref a :: st => ∃ n, A.1 a = some (kd, n) ∧ J (pc + 1) ls (.int (nI n) :: st) A S
  | _ => False
/-- a cell more, of kind k, length n, w slots -/
def newA (A : qA) (k n w : Nat) : qA := (fun b => if b = A.2.1 then some (k, n) else A.1 b, A.2.1 + 1, A.2.2.1 + 1, A.2.2.2 + w)
def x_newa (kd : Nat) : qM := fun _ _ cap pc ls st A S J => match st with
  | .int n :: st => ¬ n < 0 ∧ n ≤ 100000 ∧ A.2.2.1 + 1 ≤ cap.1 ∧ A.2.2.2 + n.toNatClampNeg ≤ cap.2 ∧ ∀ B T, B = newA A kd n.toNatClampNeg n.toNatClampNeg → T = uZ S A.2.1 → J (pc + 2) ls (.ref A.2.1 :: st) B T
  | _ => False
def x_newr (kd : Nat) : qM := fun _ _ cap pc ls st A S J => match st with
  | .int n :: st => ¬ n < 0 ∧ n ≤ 100000 ∧ A.2.2.1 + 1 ≤ cap.1 ∧ A.2.2.2 + n.toNatClampNeg ≤ cap.2 ∧ ∀ B T, B = newA A kd n.toNatClampNeg n.toNatClampNeg → T = uZ S A.2.1 → J (pc + 3) ls (.ref A.2.1 :: st) B T
  | _ => False
def x_new (c w : Nat) : qM := fun _ _ cap pc ls st A S J => A.2.2.1 + 1 ≤ cap.1 ∧ A.2.2.2 + w ≤ cap.2 ∧ ∀ B T, B = newA A c 0 w → T = uZ S A.2.1 → J (pc + 3) ls (.ref A.2.1 :: st) B T
def x_oinit : qM := fun _ _ _ pc ls st A S J => match st with
  | [.ref _] => J (pc + 3) ls [] A S
  | _ => False
def x_ivI (c y n : Nat) : qM := fun rn _ _ pc ls st A S J => match popn n [] st with
  | some (.ref a :: as, st) => A.1 a = some (c, 0) ∧ wcat st ≤ 8 ∧ rn y (.ref a :: as) A S (kI A fun r S => J (pc + 3) ls (.int r :: st) A S)
  | _ => False
def x_isI (y n : Nat) : qM := fun rn _ _ pc ls st A S J => match popn n [] st with
  | some (as, st) => wcat st ≤ 8 ∧ rn y as A S (kI A fun r S => J (pc + 3) ls (.int r :: st) A S)
  | none => False
def x_ivZ (c y n : Nat) : qM := fun rn _ _ pc ls st A S J => match popn n [] st with
  | some (.ref a :: as, st) => A.1 a = some (c, 0) ∧ wcat st ≤ 8 ∧ rn y (.ref a :: as) A S (kZ A fun z S => J (pc + 3) ls (.int (bI z) :: st) A S)
  | _ => False
def x_isZ (y n : Nat) : qM := fun rn _ _ pc ls st A S J => match popn n [] st with
  | some (as, st) => wcat st ≤ 8 ∧ rn y as A S (kZ A fun z S => J (pc + 3) ls (.int (bI z) :: st) A S)
  | none => False
def x_ivL (c y n : Nat) : qM := fun rn _ _ pc ls st A S J => match popn n [] st with
  | some (.ref a :: as, st) => A.1 a = some (c, 0) ∧ wcat st ≤ 8 ∧ rn y (.ref a :: as) A S (kL A fun r S => J (pc + 3) ls (.long r :: st) A S)
  | _ => False
def x_isL (y n : Nat) : qM := fun rn _ _ pc ls st A S J => match popn n [] st with
  | some (as, st) => wcat st ≤ 8 ∧ rn y as A S (kL A fun r S => J (pc + 3) ls (.long r :: st) A S)
  | none => False
def x_ivV (c y n : Nat) : qM := fun rn _ _ pc ls st A S J => match popn n [] st with
  | some (.ref a :: as, st) => A.1 a = some (c, 0) ∧ wcat st ≤ 8 ∧ rn y (.ref a :: as) A S (kV A fun S => J (pc + 3) ls st A S)
  | _ => False
def x_isV (y n : Nat) : qM := fun rn _ _ pc ls st A S J => match popn n [] st with
  | some (as, st) => wcat st ≤ 8 ∧ rn y as A S (kV A fun S => J (pc + 3) ls st A S)
  | none => False
/-- calls of methods that make cells -/
def x_ixVa (y n mc ms : Nat) : qM := fun rn _ cap pc ls st A S J => match popn n [] st with
  | some (.ref a :: as, st) => wcat st ≤ 8 ∧ A.2.2.1 + mc ≤ cap.1 ∧ A.2.2.2 + ms ≤ cap.2 ∧ rn y (.ref a :: as) A S (kVa (A.2.2.1 + mc) (A.2.2.2 + ms) fun A S => J (pc + 3) ls st A S)
  | _ => False
def x_ixV (y n : Nat) : qM := fun rn _ _ pc ls st A S J => match popn n [] st with
  | some (.ref a :: as, st) => wcat st ≤ 8 ∧ rn y (.ref a :: as) A S (kV A fun S => J (pc + 3) ls st A S)
  | _ => False
def x_ivIa (c y n mc ms : Nat) : qM := fun rn _ cap pc ls st A S J => match popn n [] st with
  | some (.ref a :: as, st) => A.1 a = some (c, 0) ∧ wcat st ≤ 8 ∧ A.2.2.1 + mc ≤ cap.1 ∧ A.2.2.2 + ms ≤ cap.2 ∧ rn y (.ref a :: as) A S (kIa (A.2.2.1 + mc) (A.2.2.2 + ms) fun r A S => J (pc + 3) ls (.int r :: st) A S)
  | _ => False
/-- Math.max, Math.min -/
def x_mm (f : Int32 → Int32 → Int32) : qM := fun _ _ _ pc ls st A S J => match st with
  | .int y :: .int x :: st => wcat st ≤ 8 ∧ J (pc + 3) ls (.int (f x y) :: st) A S
  | _ => False
/-- System.arraycopy of ints -/
def x_copy : qM := fun _ _ _ pc ls st A S J => match st with
  | .int n :: .int j :: .ref b :: .int i :: .ref a :: st => wcat st ≤ 8 ∧ ∃ na nb, A.1 a = some (13, na) ∧ A.1 b = some (13, nb) ∧ ¬ i < 0 ∧ ¬ j < 0 ∧ ¬ n < 0 ∧ i.toNatClampNeg + n.toNatClampNeg ≤ na ∧ j.toNatClampNeg + n.toNatClampNeg ≤ nb ∧ ∀ T, T = uC S a i.toNatClampNeg b j.toNatClampNeg n.toNatClampNeg → J (pc + 3) ls st A T
  | _ => False
def x_iret : qM := fun _ K _ _ _ st A S _ => match st with
  | [.int v] => K (some (.int v)) A S
  | _ => False
def x_zret : qM := fun _ K _ _ _ st A S _ => match st with
  | [.int v] => (v = 0 ∨ v = 1) ∧ K (some (.int v)) A S
  | _ => False
def x_lret : qM := fun _ K _ _ _ st A S _ => match st with
  | [.long v] => K (some (.long v)) A S
  | _ => False
def x_vret : qM := fun _ K _ _ _ st A S _ => match st with
  | [] => K none A S
  | _ => False
/-- of methods that make cells: the counters go up to their caps -/
def x_vreta : qM := fun _ K cap _ _ st A S _ => match st with
  | [] => K none (A.1, A.2.1, cap.1, cap.2) S
  | _ => False
def x_ireta : qM := fun _ K cap _ _ st A S _ => match st with
  | [.int v] => K (some (.int v)) (A.1, A.2.1, cap.1, cap.2) S
  | _ => False
/-- a String constant of the table's place i -/
def x_ldcS (i n : Nat) : qM := fun _ _ _ pc ls st A S J => ∀ q, A.1 q = some (20, i) → J (pc + n) ls (.ref q :: st) A S
/-! code -/
def cAt : List (Nat × qM) → Nat → qM
  | [], _ => x_stuck
  | (p, s) :: t, pc => bif Nat.beq p pc then s else cAt t pc
def Cl (C : List (Nat × qM)) (rn : qR) (K : qK) (cap : Nat × Nat) (J : qJ) : Prop := ∀ J' : qJ, (∀ pc ls st A S, J' pc ls st A S → J pc ls st A S) → ∀ pc ls st A S, cAt C pc rn K cap pc ls st A S J' → J pc ls st A S
def qel : List Nat → Nat → Bool
  | [], _ => false
  | p :: t, pc => bif Nat.beq p pc then true else qel t pc
def wpc (C : List (Nat × qM)) (rn : qR) (K : qK) (cap : Nat × Nat) (J : qJ) (cuts : List Nat) : Nat → qJ
  | 0 => J
  | n + 1 => fun pc ls st A S => bif qel cuts pc then J pc ls st A S else cAt C pc rn K cap pc ls st A S (wpc C rn K cap J cuts n)
def wps (C : List (Nat × qM)) (rn : qR) (K : qK) (cap : Nat × Nat) (J : qJ) (cuts : List Nat) (n : Nat) : qJ := fun pc ls st A S => cAt C pc rn K cap pc ls st A S (wpc C rn K cap J cuts n)
theorem wpc_of {C : List (Nat × qM)} {rn : qR} {K : qK} {cap : Nat × Nat} {J : qJ} (h : Cl C rn K cap J) (cuts : List Nat) : ∀ (n : Nat) (pc : Nat) (ls : qL) (st : List Value) (A : qA) (S : qS), wpc C rn K cap J cuts n pc ls st A S → J pc ls st A S
  | 0, _, _, _, _, _, w => w
  | n + 1, pc, ls, st, A, S, w => by
    unfold wpc at w
    cases hq : qel cuts pc with
    | true => rw [hq] at w; exact w
    | false => rw [hq] at w; exact h _ (wpc_of h cuts n) pc ls st A S w
theorem Cl.s {C : List (Nat × qM)} {rn : qR} {K : qK} {cap : Nat × Nat} {J : qJ} (h : Cl C rn K cap J) (cuts : List Nat) (n : Nat) {pc : Nat} {ls : qL} {st : List Value} {A : qA} {S : qS} (w : wps C rn K cap J cuts n pc ls st A S) : J pc ls st A S := h _ (wpc_of h cuts n) pc ls st A S w
/-! branches -/
theorem bI_0 (b : Bool) : bI b = 0 ↔ b = false := by cases b <;> simp [bI]
theorem bI_z (b : Bool) : bI b = 0 ∨ bI b = 1 := by cases b <;> simp [bI]
theorem q_eqb {b : Bool} {X Y : Prop} (h1 : b = false → X) (h2 : b = true → Y) : (bI b = 0 → X) ∧ (¬ bI b = 0 → Y) := by
  cases b
  · exact ⟨fun _ => h1 rfl, fun h => absurd rfl h⟩
  · exact ⟨fun h => by simp [bI] at h, fun _ => h2 rfl⟩
theorem q_neb {b : Bool} {X Y : Prop} (h1 : b = true → X) (h2 : b = false → Y) : (¬ bI b = 0 → X) ∧ (bI b = 0 → Y) := ⟨(q_eqb h2 h1).2, (q_eqb h2 h1).1⟩

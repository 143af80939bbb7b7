/-! codes: the class's numbering, on numbers -/
/-- the digit k of a number to the base 5, to the base 8 -/
def g5 (R k : Nat) : Nat := Nat.mod (Nat.div R (Nat.pow (nat_lit 5) k)) (nat_lit 5)
def g8 (O k : Nat) : Nat := Nat.mod (Nat.div O (Nat.pow (nat_lit 8) k)) (nat_lit 8)
/-- M: a bit for each square that has a number, c: how many, O: the squares in their order, N: their numbers -/
def fNum {α : Type} (x M c O N : Nat) (K : Nat → Nat → Nat → Nat → α) : α :=
  cond (Nat.beq (Nat.land (Nat.shiftRight M x) (nat_lit 1)) (nat_lit 1)) (K M c O N) (K (Nat.add M (Nat.pow (nat_lit 2) x)) (Nat.succ c) (Nat.add O (Nat.mul x (Nat.pow (nat_lit 8) c))) (Nat.add N (Nat.mul c (Nat.pow (nat_lit 8) x))))
def fFrom {α : Type} (R U : Nat) (K : Nat → Nat → Nat → Nat → Nat → α) : Nat → Nat → Nat → Nat → Nat → Nat → Nat → α
  | 0, _, d, M, c, O, N => K d M c O N
  | j + 1, k, d, M, c, O, N => cond (Nat.ble c k) (fFrom R U K j (Nat.succ k) (Nat.mul (nat_lit 25) d) M c O N)
      (fNum (g5 R (g8 O k)) M c O N fun M1 c1 O1 N1 => fNum (g5 U (g8 O k)) M1 c1 O1 N1 fun M2 c2 O2 N2 =>
        fFrom R U K j (Nat.succ k) (Nat.add (Nat.mul (nat_lit 25) d) (Nat.add (Nat.mul (nat_lit 5) (g8 N2 (g5 R (g8 O k)))) (g8 N2 (g5 U (g8 O k))))) M2 c2 O2 N2)
def fPiece {α : Type} (n R U s M c O N : Nat) (K : Nat → Nat → Nat → Nat → Nat → α) : α :=
  fNum s M c O N fun M1 c1 O1 N1 => fFrom R U K (Nat.sub n c) c (nat_lit 0) M1 c1 O1 N1
def fBeg {α : Type} (n R U M c O N : Nat) (K : Nat → α) : Nat → Nat → Nat → Nat → α
  | 0, _, b, _ => K b
  | j + 1, k, b, m => cond (Nat.beq (Nat.land (Nat.shiftRight M k) (nat_lit 1)) (nat_lit 1)) (fBeg n R U M c O N K j (Nat.succ k) b m)
      (fPiece n R U k M c O N fun d _ _ _ _ => cond (Nat.ble m d) (fBeg n R U M c O N K j (Nat.succ k) b m) (fBeg n R U M c O N K j (Nat.succ k) k d))
def fAll {α : Type} (n R U : Nat) (K : Nat → Nat → Nat → Nat → Nat → α) : Nat → Nat → Nat → Nat → Nat → Nat → α
  | 0, v, M, c, O, N => K v M c O N
  | j + 1, v, M, c, O, N => cond (Nat.ble n c) (K v M c O N)
      (fBeg n R U M c O N (fun b => fPiece n R U b M c O N fun d M1 c1 O1 N1 => fAll n R U K j (Nat.add v d) M1 c1 O1 N1) n (nat_lit 0) (nat_lit 0) (nat_lit 9765625))
/-- the number of a surface, by the squares' own numbers -/
def cE : Nat → (Nat → Nat) → Nat
  | 0, _ => 0
  | k + 1, f => Nat.add (Nat.mul (nat_lit 25) (cE k f)) (f k)
def cEnc (n : Nat) (f g : Nat → Nat) : Nat := Nat.add (Nat.mul (nat_lit 5) (cE n f)) (cE n g)
/-- fields of 32 bits: their upper bits, and a one in each -/
def cH : Nat → Nat
  | 0 => 0
  | m + 1 => 2147483648 + 4294967296 * cH m
def cO : Nat → Nat
  | 0 => 0
  | m + 1 => 1 + 4294967296 * cO m
/-- the codes that there are: how many, them, a number of each by its rest -/
def cIn (w L T p v : Nat) : Bool :=
  (fun i => Nat.blt i w && Nat.beq (Nat.mod (Nat.shiftRight L (Nat.mul (nat_lit 24) i)) (nat_lit 16777216)) v) (Nat.mod (Nat.shiftRight T (Nat.mul (nat_lit 8) (Nat.mod v p))) (nat_lit 256))
def cPerm (n O N : Nat) : Bool := jall n (fun x => Nat.blt (g8 N x) n && (Nat.blt (g8 O x) n && (Nat.beq (g8 O (g8 N x)) x && Nat.beq (g8 N (g8 O x)) x)))
def cCheck (n Hm Om w L T p R U A B : Nat) : Bool :=
  fAll n R U (fun v _ _ O N => cPerm n O N && (Nat.beq v (cEnc n (fun i => g8 N (g5 R (g8 O i))) (fun i => g8 N (g5 U (g8 O i)))) && (Nat.beq (Nat.land (Nat.sub (Nat.add (Nat.add (Nat.mul (nat_lit 5) A) B) Hm) (Nat.mul v Om)) Hm) Hm && cIn w L T p v))) n (nat_lit 0) (nat_lit 0) (nat_lit 0) (nat_lit 0) (nat_lit 0)


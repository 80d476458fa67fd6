/-! g: the network in numbers. A graph: how many nodes, edges; both nodes of an edge; weights. A state: nodes' rows, ends of ways, letters' rows; how many letters, deferrals, rounds. None is -1. -/
abbrev gG : Type := Int × Int × (Int → Int) × (Int → Int) × (Int → Int)
abbrev gS : Type := (Int → Int → Int) × (Int → Int) × (Int → Int → Int) × Int × Int × Int
def gN (G : gG) : Int := G.1
def gE (G : gG) : Int := G.2.1
def gfr (G : gG) : Int → Int := G.2.2.1
def gsc (G : gG) : Int → Int := G.2.2.2.1
def gwt (G : gG) : Int → Int := G.2.2.2.2
/-- of a node: 0 STATE, 1 LEVEL, 2 NAME, 3 INWARD, 4 TOWARD, 5 BEST, 6 TESTED, 7 EXPECTS, 8 HALTED, 9 CLOCK -/
def gnd (S : gS) : Int → Int → Int := S.1
/-- the end at its sender, of each way -/
def gen (S : gS) : Int → Int := S.2.1
/-- of a letter: 0 KIND, 1 WAY, 2 LEVEL, 3 TOLD, 4 STATE, 5 WHERE, 6 DEPTH, 7 ORDER -/
def glt (S : gS) : Int → Int → Int := S.2.2.1
def gnL (S : gS) : Int := S.2.2.2.1
def gdf (S : gS) : Int := S.2.2.2.2.1
def grd (S : gS) : Int := S.2.2.2.2.2
def gsN (S : gS) (n f v : Int) : gS := (fun a b => if a = n ∧ b = f then v else S.1 a b, S.2)
def gsE (S : gS) (w v : Int) : gS := (S.1, fun a => if a = w then v else S.2.1 a, S.2.2)
def gsL (S : gS) (k f v : Int) : gS := (S.1, S.2.1, fun a b => if a = k ∧ b = f then v else S.2.2.1 a b, S.2.2.2)
def gsD (S : gS) (v : Int) : gS := (S.1, S.2.1, S.2.2.1, S.2.2.2.1, v, S.2.2.2.2.2)
def gsR (S : gS) (v : Int) : gS := (S.1, S.2.1, S.2.2.1, S.2.2.2.1, S.2.2.2.2.1, v)
/-- the way from a node over its edge -/
def gwy (G : gG) (n e : Int) : Int := if gfr G e = n then 2 * e else 2 * e + 1
def gop (w : Int) : Int := if w % 2 = 0 then w + 1 else w - 1
/-- the node that a way comes from, goes to -/
def gsd (G : gG) (w : Int) : Int := if w % 2 = 0 then gfr G (w / 2) else gsc G (w / 2)
def grc (G : gG) (w : Int) : Int := gsd G (gop w)
/-- an edge is lighter than another one, or than none -/
def gli (G : gG) (e f : Int) : Bool := if e = -1 ∨ f = -1 then decide (e ≠ -1) else decide (gwt G e < gwt G f ∨ (gwt G e = gwt G f ∧ e < f))
/-- the lightest basic edge of a node among the first k -/
def glbR (G : gG) (S : gS) (n : Int) : Nat → Int
  | 0 => -1
  | k + 1 => if (gfr G k = n ∨ gsc G k = n) ∧ gen S (gwy G n k) = 0 ∧ gli G k (glbR G S n k) = true then (k : Int) else glbR G S n k
def glb (G : gG) (S : gS) (n : Int) : Int := glbR G S n (gE G).toNat
/-- a letter is sent -/
def gse (G : gG) (S : gS) (n e kd lv td st : Int) : gS :=
  (S.1, S.2.1, fun k f => if k = gnL S then (if f = 0 then kd else if f = 1 then gwy G n e else if f = 2 then lv else if f = 3 then td else if f = 4 then st else if f = 5 then 0 else if f = 6 then gnd S n 9 + 1 else 0) else glt S k f, gnL S + 1, gdf S, grd S)
def gwk (G : gG) (S : gS) (n : Int) : gS :=
  let S1 := gsN S n 0 2
  let e := glb G S1 n
  if e = -1 then gsN S1 n 8 1 else gse G (gsE S1 (gwy G n e) 1) n e 0 0 (-1) (-1)
def gsu (G : gG) (S : gS) (n : Int) : gS := if gnd S n 7 ≠ 0 ∨ gnd S n 6 ≠ -1 then S else gse G (gsN S n 0 2) n (gnd S n 3) 5 (-1) (gnd S n 5) (-1)
def gte (G : gG) (S : gS) (n : Int) : gS :=
  let e := glb G S n
  let S1 := gsN S n 6 e
  if e = -1 then gsu G S1 n else gse G S1 n e 2 (gnd S1 n 1) (gnd S1 n 2) (-1)
def gch (G : gG) (S : gS) (n : Int) : gS :=
  let e := gnd S n 4
  if gen S (gwy G n e) = 1 then gse G S n e 6 (-1) (-1) (-1) else gsE (gse G S n e 0 (gnd S n 1) (-1) (-1)) (gwy G n e) 1
def grj (G : gG) (S : gS) (n e : Int) : gS := if gen S (gwy G n e) = 0 then gsE S (gwy G n e) 2 else S
def gbt (G : gG) (S : gS) (n by_ to_ : Int) : gS := if gli G by_ (gnd S n 5) = true then gsN (gsN S n 5 by_) n 4 to_ else S
/-- why a letter can't be handled; 0: it can -/
def gwh (G : gG) (S : gS) (k : Int) : Int :=
  let w := glt S k 1
  let n := grc G w
  if glt S k 0 = 0 then (if glt S k 2 < gnd S n 1 ∨ gen S (gwy G n (w / 2)) ≠ 0 then 0 else 2)
  else if glt S k 0 = 2 then (if gnd S n 1 < glt S k 2 then 1 else 0)
  else if glt S k 0 = 5 then (if w / 2 = gnd S n 3 ∧ gnd S n 0 = 1 then 3 else 0)
  else 0
/-- BEGIN over the branches but the one it came by, among the first j edges -/
def gbgR (G : gG) (n e lv td st : Int) (S : gS) : Nat → gS
  | 0 => S
  | j + 1 =>
    let T := gbgR G n e lv td st S j
    if (j : Int) = e ∨ ¬ (gfr G j = n ∨ gsc G j = n) ∨ gen T (gwy G n j) ≠ 1 then T
    else
      let U := gse G T n j 1 lv td st
      if st = 1 then gsN U n 7 (gnd U n 7 + 1) else U
def gbg (G : gG) (S : gS) (n e k : Int) : gS :=
  let st := glt S k 4
  let S1 := gsN (gsN (gsN (gsN (gsN (gsN S n 1 (glt S k 2)) n 2 (glt S k 3)) n 0 st) n 3 e) n 4 (-1)) n 5 (-1)
  let S2 := gbgR G n e (glt S k 2) (glt S k 3) st S1 (gE G).toNat
  if st = 1 then gte G S2 n else S2
def gcn (G : gG) (S : gS) (n e lv : Int) : gS :=
  if gnd S n 1 ≤ lv then gse G S n e 1 (gnd S n 1 + 1) e 1
  else
    let S1 := gsE S (gwy G n e) 1
    let S2 := gse G S1 n e 1 (gnd S n 1) (gnd S n 2) (gnd S n 0)
    if gnd S n 0 = 1 then gsN S2 n 7 (gnd S2 n 7 + 1) else S2
def gan (G : gG) (S : gS) (n e by_ : Int) : gS :=
  if by_ ≠ gnd S n 2 then gse G S n e 3 (-1) (-1) (-1)
  else
    let S1 := grj G S n e
    if gnd S1 n 6 = e then gte G S1 n else gse G S1 n e 4 (-1) (-1) (-1)
def ghe (G : gG) (S : gS) (n e by_ : Int) : gS :=
  if e ≠ gnd S n 3 then gsu G (gbt G (gsN S n 7 (gnd S n 7 - 1)) n by_ e) n
  else if gli G (gnd S n 5) by_ = true then gch G S n
  else if gnd S n 5 = -1 ∧ by_ = -1 then gsN S n 8 1 else S
def gha (G : gG) (S : gS) (k : Int) : gS :=
  let w := glt S k 1
  let e := w / 2
  let n := grc G w
  let S1 := gsL S k 5 2
  let S2 := if gnd S1 n 9 < glt S k 6 then gsN S1 n 9 (glt S k 6) else S1
  if glt S k 0 = 0 then gcn G S2 n e (glt S k 2)
  else if glt S k 0 = 1 then gbg G S2 n e k
  else if glt S k 0 = 2 then gan G S2 n e (glt S k 3)
  else if glt S k 0 = 3 then gsu G (gbt G (gsN S2 n 6 (-1)) n e e) n
  else if glt S k 0 = 4 then gte G (grj G S2 n e) n
  else if glt S k 0 = 5 then ghe G S2 n e (glt S k 3)
  else gch G S2 n
/-- of the letters deferred at a node that can be handled now the one that was deferred first, among the first j; none -/
def grdR (G : gG) (S : gS) (n : Int) : Nat → Int
  | 0 => -1
  | j + 1 =>
    let b := grdR G S n j
    if glt S j 5 = 1 ∧ grc G (glt S j 1) = n ∧ gwh G S j = 0 ∧ (b = -1 ∨ glt S j 7 < glt S b 7) then (j : Int) else b
def gra (G : gG) (S : gS) (n : Int) : Int := grdR G S n (gnL S).toNat
def gdr (G : gG) (n : Int) : Nat → gS → gS
  | 0, S => S
  | f + 1, S => if gra G S n = -1 then S else gdr G n f (gha G S (gra G S n))
/-- the first letter on a way among the first j; none -/
def gfiR (S : gS) (w : Int) : Nat → Int
  | 0 => -1
  | j + 1 => if gfiR S w j ≠ -1 then gfiR S w j else if glt S j 5 = 0 ∧ glt S j 1 = w then (j : Int) else -1
def gfi (S : gS) (w : Int) : Int := gfiR S w (gnL S).toNat
def gdef (S : gS) (k : Int) : gS := gsL (gsL (gsD S (gdf S + 1)) k 5 1) k 7 (gdf S + 1)
/-- a way's first letter is taken: why it is deferred (0: handled), and the state behind -/
def gta (G : gG) (S : gS) (w : Int) : Int × gS :=
  let k := gfi S w
  let n := grc G w
  let S1 := if (glt S k 0 = 0 ∨ glt S k 0 = 2) ∧ gnd S n 0 = 0 then gwk G S n else S
  let why := gwh G S1 k
  if why ≠ 0 then (why, gdef S1 k) else (0, gdr G n 256 (gha G S1 k))
/-- all asleep -/
def gas : gS := (fun _ f => if 2 ≤ f ∧ f ≤ 6 then -1 else 0, fun _ => 0, fun _ _ => 0, 0, 0, 0)

/-! a run of a net in plain numbers and lists: what class and reference both do -/
abbrev Ms : Type := Nat → Int32
abbrev St : Type := Nat × Int32 × List En × List Ms × (Nat → Int32) × (Nat → Int64) × (Nat → List So) × (Nat → Nat → Int32) × (Nat → Int32)
abbrev s_n (st : St) : Nat := st.1
abbrev s_d (st : St) : Int32 := st.2.1
abbrev s_L (st : St) : List En := st.2.2.1
abbrev s_F (st : St) : List Ms := st.2.2.2.1
abbrev s_M (st : St) : Nat → Int32 := st.2.2.2.2.1
abbrev s_D (st : St) : Nat → Int64 := st.2.2.2.2.2.1
abbrev s_S (st : St) : Nat → List So := st.2.2.2.2.2.2.1
abbrev s_B (st : St) : Nat → Nat → Int32 := st.2.2.2.2.2.2.2.1
abbrev s_T (st : St) : Nat → Int32 := st.2.2.2.2.2.2.2.2
def q_n (st : St) (x : Nat) : St := (x, st.2)
def q_d (st : St) (x : Int32) : St := (st.1, x, st.2.2)
def q_L (st : St) (x : List En) : St := (st.1, st.2.1, x, st.2.2.2)
def q_F (st : St) (x : List Ms) : St := (st.1, st.2.1, st.2.2.1, x, st.2.2.2.2)
def q_M (st : St) (x : Nat → Int32) : St := (st.1, st.2.1, st.2.2.1, st.2.2.2.1, x, st.2.2.2.2.2)
def q_D (st : St) (x : Nat → Int64) : St := (st.1, st.2.1, st.2.2.1, st.2.2.2.1, st.2.2.2.2.1, x, st.2.2.2.2.2.2)
def q_S (st : St) (x : Nat → List So) : St := (st.1, st.2.1, st.2.2.1, st.2.2.2.1, st.2.2.2.2.1, st.2.2.2.2.2.1, x, st.2.2.2.2.2.2.2)
def q_B (st : St) (x : Nat → Nat → Int32) : St := (st.1, st.2.1, st.2.2.1, st.2.2.2.1, st.2.2.2.2.1, st.2.2.2.2.2.1, st.2.2.2.2.2.2.1, x, st.2.2.2.2.2.2.2.2)
def q_T (st : St) (x : Nat → Int32) : St := (st.1, st.2.1, st.2.2.1, st.2.2.2.1, st.2.2.2.2.1, st.2.2.2.2.2.1, st.2.2.2.2.2.2.1, st.2.2.2.2.2.2.2.1, x)
def ug {α : Type} (f : Nat → α) (k : Nat) (x : α) : Nat → α := fun j => if j = k then x else f j
theorem ug_e {α : Type} {f : Nat → α} {k : Nat} {x : α} : ug f k x k = x := if_pos rfl
theorem ug_n {α : Type} {f : Nat → α} {k j : Nat} {x : α} (hj : j ≠ k) : ug f k x j = f j := if_neg hj
def tick (st : St) (i : Nat) : St := q_T st (ug (s_T st) i (s_T st i + 1))
/-- what a message says: kind, name, wish, nonce, and four more (until, server, source, from a store; depth, root, where) -/
def mkp (kd nm ws nc a b c d : Int32) : Ms := fun i => match i with
  | 0 => kd
  | 4 => nm
  | 5 => ws
  | 6 => nc
  | 7 => a
  | 8 => b
  | 9 => c
  | 10 => d
  | _ => 0
def plN (nm ws root : Int32) (nd : Nat) : Ms := mkp 2 nm ws 0 1 root (nI nd) 0
def plD (nm un by' : Int32) (nd : Nat) (fr : Int32) : Ms := mkp 1 nm 0 0 un by' (nI nd) fr
def plI (nm ws nc : Int32) : Ms := mkp 0 nm ws nc 0 0 0 0
def msg (a b : Nat) (due : Int32) (p : Ms) : Ms := fun i => if i = 1 then nI a else if i = 2 then nI b else if i = 3 then due else p i
def fSet (b : Nat → Int32) (now : Nat) (p : Ms) : Nat → Int32 := fun i => if p 0 = 1 then (if i = 0 then 1 else if i = 2 then nI now else if i = 3 then p 9 else if i = 4 then p 10 else b i) else (if i = 0 then 2 else if i = 2 then nI now else if i = 5 then p 7 else if i = 6 then p 8 else if i = 7 then p 9 else b i)
def settle (st : St) (k : Nat) (p : Ms) : St := q_B st (ug (s_B st) k (fSet (s_B st k) (s_n st) p))
/-- an entry: node, name, wish, in, first nonce, out, tried, sent, ends; asks, nonces -/
def mkE (nd nm ws inn fst out tri snt ends : Int32) (ask non : Int64) : En := (fun i => match i with
  | 0 => nd
  | 1 => nm
  | 2 => ws
  | 3 => inn
  | 6 => fst
  | 7 => out
  | 8 => tri
  | 9 => snt
  | 10 => ends
  | _ => 0, fun i => match i with
  | 4 => ask
  | 5 => non
  | _ => 0)
def eJoin (e : En) (fr : Option Nat) (k : Nat) : En := match fr with
  | none => (e.1, fun i => if i = 4 then e.2 4 ||| pL k else if i = 5 then e.2 5 ||| pL k else e.2 i)
  | some f => (fun i => if i = 3 then e.1 3 ||| pI f else e.1 i, fun i => if i = 5 then e.2 5 ||| pL k else e.2 i)
def eOut (e : En) (t now : Nat) : En := (fun i => if i = 7 then nI t else if i = 8 then e.1 8 ||| pI t else if i = 9 then nI now else e.1 i, e.2)
def isE (nd : Nat) (nm ws : Int32) (e : En) : Bool := decide (e.1 0 = nI nd ∧ e.1 1 = nm ∧ e.1 2 = ws)
def isV (nd : Nat) (nm : Int32) (fr : Bool) (e : En) : Bool := decide (e.1 0 = nI nd ∧ e.1 1 = nm ∧ (e.1 2 = 0 ∨ fr = true))
section Spec2
variable (N : Nat → Nat) (aw : Int32)
def send (st : St) (a b : Nat) (p : Ms) : St := match upL N aw (s_d st) (6 * a + b) with
  | none => tick st 5
  | some l => tick (q_F st (s_F st ++ [msg a b (nI (s_n st + N (13 + 3 * l))) p])) 0
def answ (st : St) (nd : Nat) (fr : Option Nat) (k : Nat) (p : Ms) : St := match fr with
  | none => settle st k p
  | some f => send N aw st nd f p
def newE (st : St) (nd : Nat) (fr : Option Nat) (nm : Nat) (ws : Int32) (k : Nat) : En := eJoin (mkE (nI nd) (nI nm) ws 0 (nI k) (-1) 0 0 (nI (s_n st + N 1)) 0 0) fr k
def makeE (st : St) (nd : Nat) (fr : Option Nat) (nm : Nat) (ws : Int32) (k : Nat) : St :=
  match bw N aw (s_d st) (s_M st) nd nm ((newE N st nd fr nm ws k).1 3) with
  | none => answ N aw st nd fr k (plN (nI nm) ws 1 nd)
  | some t => send N aw (q_L st (s_L st ++ [eOut (newE N st nd fr nm ws k) t (s_n st)])) nd t (plI (nI nm) ws (nI k))
def known (r : Option (List En × En × List En)) (k : Nat) : Bool := match r with
  | none => false
  | some r => bL (r.2.1.2 5) k
def goodS (r : Option (List So × So × List So)) (ws : Int32) (now : Nat) : Option (List So × So × List So) := match r with
  | none => none
  | some r => if ws = 0 ∨ ¬ r.2.1.2.1 < nI now then some r else none
def inte (st : St) (nd : Nat) (fr : Option Nat) (nm : Nat) (ws : Int32) (k : Nat) : St :=
  if known (fs (isE nd (nI nm) ws) (s_L st)) k = true ∨ bL (s_D st nd) k = true then answ N aw (tick st 3) nd fr k (plN (nI nm) ws 2 nd)
  else match goodS (fs (isN (nI nm)) (s_S st nd)) ws (s_n st) with
    | some r => answ N aw (q_S (tick st 1) (ug (s_S st) nd (r.1 ++ r.2.2 ++ [r.2.1]))) nd fr k (plD (nI nm) r.2.1.2.1 r.2.1.2.2 nd 1)
    | none => match sv N nd nm with
      | some s => answ N aw st nd fr k (plD (nI nm) (nI (s_n st + N (106 + 3 * s))) (nI nd) nd 0)
      | none => match fs (isE nd (nI nm) ws) (s_L st) with
        | some r => q_L (tick st 2) (r.1 ++ eJoin r.2.1 fr k :: r.2.2)
        | none => makeE N aw st nd fr nm ws k
def clN (nd : Nat) (x : Int32) (p : Ms) : Nat → Nat → St → St
  | 0, _, st => st
  | d + 1, j, st => clN nd x p d (j + 1) (if bI x j = true then send N aw st nd j p else st)
def clS (x : Int64) (p : Ms) : Nat → Nat → St → St
  | 0, _, st => st
  | d + 1, k, st => clS x p d (k + 1) (if bL x k = true then settle st k p else st)
def clE (nd : Nat) (p : Ms) (st : St) (e : En) : St :=
  let st2 := clS (e.2 4) p 60 0 (clN N aw nd (e.1 3) p 6 0 st)
  q_D st2 (ug (s_D st2) nd (s_D st2 nd ||| e.2 5))
def frs (p : Ms) (now : Nat) : Bool := decide (¬ p 7 < nI now)
def data (st : St) (nd f : Nat) (p : Ms) : St :=
  match fs (isV nd (p 4) (frs p (s_n st))) (s_L st) with
  | none => tick st 4
  | some r =>
    let st1 := if r.2.1.1 7 = nI f then q_M st (ug (s_M st) (6 * nd + f) (nI (s_n st) - r.2.1.1 9)) else st
    let st2 := q_S st1 (ug (s_S st) nd (kpS (s_S st nd) (p 4, p 7, p 8) (N (5 + nd))))
    q_L (((s_L st).filter (isV nd (p 4) (frs p (s_n st)))).foldl (clE N aw nd p) st2) ((s_L st).filter (fun e => !(isV nd (p 4) (frs p (s_n st)) e)))
def nack (st : St) (nd f nm : Nat) (p : Ms) : St :=
  match fs (isE nd (p 4) (p 5)) (s_L st) with
  | none => st
  | some r =>
    if r.2.1.1 7 = nI f then
      match bw N aw (s_d st) (s_M st) nd nm (r.2.1.1 3 ||| r.2.1.1 8) with
      | some t => send N aw (q_L st (r.1 ++ eOut r.2.1 t (s_n st) :: r.2.2)) nd t (plI (p 4) (p 5) (r.2.1.1 6))
      | none => q_L (clE N aw nd (fun i => if i = 7 then p 7 + 1 else p i) st r.2.1) (r.1 ++ r.2.2)
    else st
/-- a message comes -/
def take (st : St) (p : Ms) : St :=
  let nd := (p 2).toNatClampNeg
  let f := (p 1).toNatClampNeg
  if p 0 = 1 then data N aw st nd f p
  else if p 0 = 2 then nack N aw st nd f (p 4).toNatClampNeg p
  else inte N aw st nd (some f) (p 4).toNatClampNeg (p 5) (p 6).toNatClampNeg
def ldA : Nat → Nat → St → St
  | 0, _, st => st
  | left + 1, i, st => match (s_F st)[i]? with
    | none => st
    | some p => if p 3 = nI (s_n st) then ldA left i (take N aw (q_F st ((s_F st).eraseIdx i)) p) else ldA left (i + 1) st
def eNd (e : En) : Nat := (e.1 0).toNatClampNeg
def endB (b : Nat → Int32) (now : Nat) : Nat → Int32 := fun i => if i = 0 then 3 else if i = 2 then nI now else b i
/-- an entry ends -/
def end1 (st : St) (e : En) : St :=
  q_D (q_M (q_B st (fun k => if k < 60 ∧ bL (e.2 4) k = true then endB (s_B st k) (s_n st) else s_B st k)) (ug (s_M st) (6 * eNd e + (e.1 7).toNatClampNeg) (nI (N 1)))) (ug (s_D st) (eNd e) (s_D st (eNd e) ||| e.2 5))
def ends (st : St) : St := q_L (((s_L st).filter (fun e => decide (e.1 10 = nI (s_n st)))).foldl (end1 N) st) ((s_L st).filter (fun e => !(decide (e.1 10 = nI (s_n st)))))
def minu (st : St) : St :=
  let st1 := ends N (q_n st (s_n st + 1))
  ldA N aw (s_F st1).length 0 st1
def mins : Nat → St → St
  | 0, st => st
  | d + 1, st => mins d (minu N aw st)
def ask (st : St) (k nd nm : Nat) (ws : Int32) : St :=
  inte N aw (q_B st (ug (s_B st) k (fun i => if i = 0 then 0 else if i = 1 then nI (s_n st) else if i = 8 then 1 else if i = 9 then nI nm else if i = 10 then ws else -1))) nd none nm ws k
end Spec2
/-- at the beginning; places 8 to 10 of a fate are ours: asked, its name, its wish -/
def st0 (B : Nat → Nat → Int32) : St := (0, 0, [], [], fun _ => -1, fun _ => 0, fun _ => [], fun k i => if i < 8 then B k i else 0, fun _ => 0)

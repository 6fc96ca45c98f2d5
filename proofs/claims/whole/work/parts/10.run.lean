variable {scr : List Int32}
-- ===== runs of the small machine =====
def sprd : List Value → List Value
  | [] => []
  | .long x :: r => .long x :: .null :: sprd r
  | .double x :: r => .double x :: .null :: sprd r
  | v :: r => v :: sprd r
def iniL (y : Nat) (As : List Value) : List Value := sprd As ++ List.replicate (mMax y - (sprd As).length) .null
def cutA (y : Nat) (st : List Value) : Option (List Value × List Value) := if mNA y ≤ st.length then some ((st.take (mNA y)).reverse, st.drop (mNA y)) else none
def vOk (scr : List Int32) (h : aH) (As : List Value) (y : Nat) : Bool := match As with
  | .ref q :: _ => (match cellAt scr h q with
    | some (.inr (ci, _)) => ci == mCi y
    | _ => false)
  | _ => false
def rm8 (y : Nat) (As rest : List Value) : Bool := decide ((rest.map fun v => v.category).sum ≤ 8) && decide ((sprd As).length ≤ mMax y)
def retI (y : Nat) (x : Int32) : Bool := match mRet y with
  | some .int => true
  | some t => decide (narrow t (.int x) = .int x)
  | none => false
def retR (y : Nat) : Bool := match mRet y with
  | some (.object _) => true
  | some (.array _) => true
  | _ => false
def rOk (y : Nat) (v : Option Value) : Bool := match mRet y with
  | none => (match v with | none => true | _ => false)
  | some .long => (match v with | some (.long _) => true | _ => false)
  | some (.object _) => (match v with | some (.ref _) => true | _ => false)
  | some (.array _) => (match v with | some (.ref _) => true | _ => false)
  | some _ => (match v with | some (.int _) => true | _ => false)
def run (scr : List Int32) : Nat → Bool → Nat → Nat → Nat → List Value → List Value → aH → Option (Option Value × aH)
  | 0, _, _, _, _, _, _, _ => none
  | n + 1, al, d, y, pc, L, st, h => oB (rowAt y pc) fun z => match z.1 with
    | .ireturn => lenO z.2.1 1 (match st with
      | [.int x] => atL (retI y x) (some (some (.int x), h))
      | _ => none)
    | .lreturn => lenO z.2.1 1 (match st with
      | [.long x] => atL (decide (mRet y = some .long)) (some (some (.long x), h))
      | _ => none)
    | .areturn => lenO z.2.1 1 (match st with
      | [.ref x] => atL (retR y) (some (some (.ref x), h))
      | _ => none)
    | .return_ => lenO z.2.1 1 (match st with
      | [] => atL (decide (mRet y = none)) (some (none, h))
      | _ => none)
    | .invokevirtual _ => lenO z.2.1 3 (match d with
      | 0 => none
      | d + 1 => oB (cutA z.2.2.1 st) fun q => atL (vOk scr h q.1 z.2.2.1 && (rm8 z.2.2.1 q.1 q.2 && decide (z.2.2.2 = 0))) (oB (run scr n false d z.2.2.1 0 (iniL z.2.2.1 q.1) [] h) fun u => atL (rOk z.2.2.1 u.1) (run scr n al (d + 1) y (pc + 3) L (u.1.toList ++ q.2) u.2)))
    | .invokestatic _ => lenO z.2.1 3 (match d with
      | 0 => none
      | d + 1 => if z.2.2.2 = 4 then (match st with
          | .int k :: .int dp :: .ref dq :: .int sp :: .ref sq :: r => atL (decide (sp = 0) && (decide (dp = 0) && decide ((r.map fun v => v.category).sum ≤ 8))) (oB (cpA h sq dq k) fun h' => run scr n al (d + 1) y (pc + 3) L r h')
          | _ => none)
        else oB (cutA z.2.2.1 st) fun q => atL (rm8 z.2.2.1 q.1 q.2 && decide (z.2.2.2 = 1)) (oB (run scr n false d z.2.2.1 0 (iniL z.2.2.1 q.1) [] h) fun u => atL (rOk z.2.2.1 u.1) (run scr n al (d + 1) y (pc + 3) L (u.1.toList ++ q.2) u.2)))
    | .invokespecial _ => lenO z.2.1 3 (match d with
      | 0 => none
      | d + 1 => if z.2.2.2 = 3 then (match st with
          | .ref _ :: r => atL (decide ((r.map fun v => v.category).sum ≤ 8)) (run scr n al (d + 1) y (pc + 3) L r h)
          | _ => none)
        else oB (cutA z.2.2.1 st) fun q => atL (al && (vOk scr h q.1 z.2.2.1 && (rm8 z.2.2.1 q.1 q.2 && (decide (z.2.2.2 = 2) && decide (mIni z.2.2.1 = some (mCi z.2.2.1)))))) (oB (run scr n al d z.2.2.1 0 (iniL z.2.2.1 q.1) [] h) fun u => atL (rOk z.2.2.1 u.1 && (L.all (okV h.length u.2.length) && q.2.all (okV h.length u.2.length))) (run scr n al (d + 1) y (pc + 3) L (u.1.toList ++ q.2) u.2)))
    | i => oB (stp scr al (mIni y) i z.2.1 z.2.2.1 z.2.2.2 pc L st h) fun w => run scr n al d y w.1 w.2.1 w.2.2.1 w.2.2.2

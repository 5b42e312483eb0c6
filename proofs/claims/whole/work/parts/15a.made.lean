/-! the two objects are made; then the law's loop -/
def jm_i0 : jx_S := (0, [some (xA 60 0), none, none, none], [], 0, fun _ _ _ => 0)
/-- what the objects hold once they are made -/
def jm_e (s _ k : Nat) : Int := match s with
  | 1 => if k = 7 then 3 else 0
  | 2 => 1
  | 26 => if k = 5 then 3 else if k = 16 then -4 else if k = 17 then -4 else 0
  | 27 => 1
  | 43 => -1
  | _ => 0
def jm_okc (m : jx_M) (q : Nat × Nat) : Bool := match jx_sK q.1 with
  | 0 => (List.range (jx_nf q.1)).all (fun k => match jx_fT q.1 k with
    | (2, _, _, _) => decide (m q.1 q.2 k = 1)
    | _ => decide (m q.1 q.2 k = jm_e q.1 q.2 k))
  | 1 => (List.range (jx_sP q.1)).all (fun k => decide (m q.1 q.2 k = jm_e q.1 q.2 k))
  | _ => (List.range (jx_sP q.1)).all (fun k => decide (m q.1 q.2 k = 1))
def jm_l : jx_L := [some (xA 60 0), some (xA 0 0), some (xA 26 0), some (xI 0)]
theorem jm_ok : (match jx_go false 1000 191 10 jm_i0 with
    | some t => Nat.beq t.1 10 && (decide (t.2.1 = jm_l) && (decide (t.2.2.1 = []) && (Nat.beq t.2.2.2.1 190 && jx_lay.all (jm_okc t.2.2.2.2))))
    | none => false) = true := by decide +kernel
theorem jm_SL : jx_SL 190 ≤ 7302249 := by decide +kernel

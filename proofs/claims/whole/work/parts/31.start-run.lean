/-! the two constructors, run by the kernel -/
def rs_c0 : rx_C := .inr (.inr (11, (List.range 9).map (fun k => defaultValue (tyX11 k))))
def rs_c1 : rx_C := .inr (.inr (12, (List.range 84).map (fun k => defaultValue (tyX12 k))))
def rs_r1 : Option (Option Value × rx_H) := rx_run 6000 mX_init (0, [(0, .ref 0)], [], [rs_c0], 0, 0)
def rs_h1 : rx_H := match rs_r1 with
  | some (_, h) => h
  | none => []
def rs_r2 : Option (Option Value × rx_H) := rx_run 6000 mM_init (0, [(0, .ref 116)], [], rs_h1 ++ [rs_c1], 0, 0)
def rs_h2 : rx_H := match rs_r2 with
  | some (_, h) => h
  | none => []
/-- a cell is of that kind, and holds what it holds at first -/
def rs_ok (k : Nat) (c : rx_C) (t : rz_C) : Bool := match c, t with
  | .inl (t1, n1, f), .inl (t2, n2) => decide (t1 = t2) && decide (n1 = n2) && (List.range n1).all (fun j => decide (f j = rz_A0 k j))
  | .inr (.inl a), .inr (.inl b) => decide (a = b)
  | .inr (.inr (c1, fs)), .inr (.inr (c2, gs)) => decide (c1 = c2) && decide (fs.length = gs.length) && (List.range fs.length).all (fun j => match fs[j]?, gs[j]? with
    | some v, some (some w) => decide (v = w)
    | some (.int x), some none => decide (x = rz_I0 k j)
    | _, _ => false)
  | _, _ => false
def rs_chk : Bool := match rs_r1 with
  | some (none, h1) => decide (h1.length = 116) && rx_fresh 116 [(1, .ref 0), (0, .ref 5000000)] [] h1 && rx_may rx_lawM mM_init [(1, .ref 0), (0, .ref 5000000)] [.ref 116, .ref 116] (h1 ++ [rs_c1]) 117 (9 + rm_ms mX_init + 84) &&
    (match rx_run 6000 mM_init (0, [(0, .ref 116)], [], h1 ++ [rs_c1], 0, 0) with
    | some (none, h2) => decide (h2.length = rz_T.length) && (List.range h2.length).all (fun k => match h2[k]?, rz_T[k]? with
      | some c, some t => rs_ok k c t
      | _, _ => false)
    | _ => false)
  | _ => false
set_option maxRecDepth 1000000 in
theorem rs_all : rs_chk = true := by decide +kernel

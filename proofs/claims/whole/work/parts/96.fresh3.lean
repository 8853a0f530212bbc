/-! the fresh state's picture, and the law up to its loop -/
def zf_kd : va_E → Nat
  | .inl (_, _, .inl _) => 1
  | .inl (_, _, .inr (.inl _)) => 2
  | .inl (_, _, .inr (.inr _)) => 3
  | .inr _ => 0
def zf_kds (q : Option zz_O) : Bool := match q with
  | some (_, h, _, _) => h.map zf_kd == (List.range 259).map (fun a => (zq_k a).1)
  | none => false
set_option maxRecDepth 100000 in
theorem zf_kds_ok : zf_kds zf_b = true := by decide +kernel
set_option maxRecDepth 100000 in
theorem zf_kd_at {h : zz_H} {bc bs : Nat} {o : Outcome} (hb : zf_b = some (o, h, bc, bs)) {a : Nat} {e : va_E} (ha : a < 259) (he : h[a]? = some e) : zf_kd e = (zq_k a).1 := by
  have h1 := zf_kds_ok
  rw [hb] at h1
  have h1 : (h.map zf_kd == (List.range 259).map (fun a => (zq_k a).1)) = true := h1
  have h2 := eq_of_beq h1
  have h3 := congrArg (fun l => l[a]?) h2
  simp only [List.getElem?_map, he, Option.map_some] at h3
  rw [List.getElem?_range ha] at h3
  simpa using h3

/-! the instructions that touch no heap, all together -/
section ZZ6
variable {p : Program} {l : Launch} {e : Env} {R : Room} {s : State} {m : MethodId} {args : Array Value} {below : List Frame} {meth : Method} {c : Code} {H : Heap} {locs : List Loc} {cells slots : Nat} {Q : State → Prop}
variable {cc : ByteArray} {pc : Nat} {ls : Array Slot} {own : String} {n nL pc' : Nat} {L L' st st' : List Value} {r : List Nat} {b0 b : Nat} {sa : Nat → Nat}
theorem zz_lkp_ok {pc : Nat} {d : Int} {x : Int32} {d' : Nat} (hd : (pc : Int) + d = (d' : Int)) : ∀ (ps : List (Int × Int)) (ts : List Nat), ts.map (fun t : Nat => (t : Int)) = ps.map (fun q => (pc : Int) + q.2) → (pc : Int) + Op.lookupswitch.offset ps d x.toInt = ((zz_lkp ps ts x d' : Nat) : Int)
  | [], ts, h => by
    cases ts with
    | nil => exact hd
    | cons t ts => cases h
  | (k, o) :: ps, ts, h => by
    cases ts with
    | nil => cases h
    | cons t ts =>
      simp only [List.map_cons, List.cons.injEq] at h
      rw [Op.lookupswitch.offset_cons]
      unfold zz_lkp
      by_cases hk : k = x.toInt
      · rw [if_pos hk, if_pos hk]
        exact h.1.symm
      · rw [if_neg hk, if_neg hk]
        exact zz_lkp_ok hd ps ts h.2
theorem zz_s1_lookupswitch {ad : Nat → Nat} {d0 : Int} {ps : Array (Int × Int)} (hx : p.tables.exec = Jvm.exec) (hb : c.code = cc) (hl : zz_lr ad ls nL L) (hdg : decode cc pc = .ok (.lookupswitch d0 ps, n)) (ht : zz_tg (.lookupswitch d0 ps) r pc) (h : zz_st1 (.lookupswitch d0 ps) r pc L st = some (pc', L', st')) (k : ∀ ls' : Array Slot, zz_lr ad ls' nL L' → W p l e R s m args below meth c H locs cells slots Q (F0 m pc' ls' (st'.map (zz_v ad)))) : W p l e R s m args below meth c H locs cells slots Q (F0 m pc ls (st.map (zz_v ad))) := by
  simp only [zz_st1] at h
  split at h
  · next x t d' ts =>
    obtain ⟨h1, h2⟩ := ht
    obtain ⟨h3, h4⟩ := h2 d' ts rfl
    cases h
    exact lv_lookup hx hb hdg h1 rfl (zz_lkp_ok h3 _ _ h4) (k ls hl)
  · cases h
def zz_isw : Instr → Bool
  | .tableswitch _ _ _ _ | .lookupswitch _ _ => true
  | _ => false
theorem zz_st1_ok {i : Instr} (hx : p.tables.exec = Jvm.exec) (hb : c.code = cc) (hown : s.vm.findClass own = some m.cls) (hck : zz_ck own i r args s sa) (ht : zz_tg i r pc) (hl : zz_lr (zz_ad b0 sa b) ls nL L) (hdg : decode cc pc = .ok (i, n)) (hn : n = zz_len i ∨ zz_isw i = true) (h : zz_st1 i r pc L st = some (pc', L', st'))
    (k : ∀ ls' : Array Slot, zz_lr (zz_ad b0 sa b) ls' nL L' → W p l e R s m args below meth c H locs cells slots Q (F0 m pc' ls' (st'.map (zz_v (zz_ad b0 sa b))))) : W p l e R s m args below meth c H locs cells slots Q (F0 m pc ls (st.map (zz_v (zz_ad b0 sa b)))) := by
  cases i with
  | aconst_null => exact zz_s1_aconst_null hx hb hown hl hdg (hn.resolve_right (fun z => by cases z)) h k
  | iconst v0 => exact zz_s1_iconst hx hb hown hl hdg (hn.resolve_right (fun z => by cases z)) h k
  | bipush v0 => exact zz_s1_bipush hx hb hown hl hdg (hn.resolve_right (fun z => by cases z)) h k
  | sipush v0 => exact zz_s1_sipush hx hb hown hl hdg (hn.resolve_right (fun z => by cases z)) h k
  | lconst v0 => exact zz_s1_lconst hx hb hown hl hdg (hn.resolve_right (fun z => by cases z)) h k
  | iload v0 => exact zz_s1_iload hx hb hown hl hdg (hn.resolve_right (fun z => by cases z)) h k
  | iload_n v0 => exact zz_s1_iload_n hx hb hown hl hdg (hn.resolve_right (fun z => by cases z)) h k
  | lload v0 => exact zz_s1_lload hx hb hown hl hdg (hn.resolve_right (fun z => by cases z)) h k
  | lload_n v0 => exact zz_s1_lload_n hx hb hown hl hdg (hn.resolve_right (fun z => by cases z)) h k
  | aload v0 => exact zz_s1_aload hx hb hown hl hdg (hn.resolve_right (fun z => by cases z)) h k
  | aload_n v0 => exact zz_s1_aload_n hx hb hown hl hdg (hn.resolve_right (fun z => by cases z)) h k
  | istore v0 => exact zz_s1_istore hx hb hown hl hdg (hn.resolve_right (fun z => by cases z)) h k
  | istore_n v0 => exact zz_s1_istore_n hx hb hown hl hdg (hn.resolve_right (fun z => by cases z)) h k
  | lstore v0 => exact zz_s1_lstore hx hb hown hl hdg (hn.resolve_right (fun z => by cases z)) h k
  | lstore_n v0 => exact zz_s1_lstore_n hx hb hown hl hdg (hn.resolve_right (fun z => by cases z)) h k
  | astore v0 => exact zz_s1_astore hx hb hown hl hdg (hn.resolve_right (fun z => by cases z)) h k
  | astore_n v0 => exact zz_s1_astore_n hx hb hown hl hdg (hn.resolve_right (fun z => by cases z)) h k
  | iinc v0 v1 => exact zz_s1_iinc hx hb hown hl hdg (hn.resolve_right (fun z => by cases z)) h k
  | iadd => exact zz_s1_iadd hx hb hown hl hdg (hn.resolve_right (fun z => by cases z)) h k
  | isub => exact zz_s1_isub hx hb hown hl hdg (hn.resolve_right (fun z => by cases z)) h k
  | imul => exact zz_s1_imul hx hb hown hl hdg (hn.resolve_right (fun z => by cases z)) h k
  | iand => exact zz_s1_iand hx hb hown hl hdg (hn.resolve_right (fun z => by cases z)) h k
  | ior => exact zz_s1_ior hx hb hown hl hdg (hn.resolve_right (fun z => by cases z)) h k
  | ixor => exact zz_s1_ixor hx hb hown hl hdg (hn.resolve_right (fun z => by cases z)) h k
  | ishl => exact zz_s1_ishl hx hb hown hl hdg (hn.resolve_right (fun z => by cases z)) h k
  | ishr => exact zz_s1_ishr hx hb hown hl hdg (hn.resolve_right (fun z => by cases z)) h k
  | iushr => exact zz_s1_iushr hx hb hown hl hdg (hn.resolve_right (fun z => by cases z)) h k
  | idiv => exact zz_s1_idiv hx hb hown hl hdg (hn.resolve_right (fun z => by cases z)) h k
  | irem => exact zz_s1_irem hx hb hown hl hdg (hn.resolve_right (fun z => by cases z)) h k
  | ladd => exact zz_s1_ladd hx hb hown hl hdg (hn.resolve_right (fun z => by cases z)) h k
  | land => exact zz_s1_land hx hb hown hl hdg (hn.resolve_right (fun z => by cases z)) h k
  | lor => exact zz_s1_lor hx hb hown hl hdg (hn.resolve_right (fun z => by cases z)) h k
  | lshl => exact zz_s1_lshl hx hb hown hl hdg (hn.resolve_right (fun z => by cases z)) h k
  | lshr => exact zz_s1_lshr hx hb hown hl hdg (hn.resolve_right (fun z => by cases z)) h k
  | lushr => exact zz_s1_lushr hx hb hown hl hdg (hn.resolve_right (fun z => by cases z)) h k
  | lcmp => exact zz_s1_lcmp hx hb hown hl hdg (hn.resolve_right (fun z => by cases z)) h k
  | ineg => exact zz_s1_ineg hx hb hown hl hdg (hn.resolve_right (fun z => by cases z)) h k
  | i2l => exact zz_s1_i2l hx hb hown hl hdg (hn.resolve_right (fun z => by cases z)) h k
  | i2c => exact zz_s1_i2c hx hb hown hl hdg (hn.resolve_right (fun z => by cases z)) h k
  | l2i => exact zz_s1_l2i hx hb hown hl hdg (hn.resolve_right (fun z => by cases z)) h k
  | dup => exact zz_s1_dup hx hb hown hl hdg (hn.resolve_right (fun z => by cases z)) h k
  | dup2 => exact zz_s1_dup2 hx hb hown hl hdg (hn.resolve_right (fun z => by cases z)) h k
  | dup_x1 => exact zz_s1_dup_x1 hx hb hown hl hdg (hn.resolve_right (fun z => by cases z)) h k
  | pop => exact zz_s1_pop hx hb hown hl hdg (hn.resolve_right (fun z => by cases z)) h k
  | ifCond v0 v1 => exact zz_s1_ifCond hx hb hown hl hdg (hn.resolve_right (fun z => by cases z)) ht h k
  | if_icmp v0 v1 => exact zz_s1_if_icmp hx hb hown hl hdg (hn.resolve_right (fun z => by cases z)) ht h k
  | ifnull v0 => exact zz_s1_ifnull hx hb hown hl hdg (hn.resolve_right (fun z => by cases z)) ht h k
  | ifnonnull v0 => exact zz_s1_ifnonnull hx hb hown hl hdg (hn.resolve_right (fun z => by cases z)) ht h k
  | goto v0 => exact zz_s1_goto hx hb hown hl hdg (hn.resolve_right (fun z => by cases z)) ht h k
  | ldc v0 => exact zz_s1_ldc hx hb hown hck hl hdg (hn.resolve_right (fun z => by cases z)) h k
  | ldc_w v0 => exact zz_s1_ldc_w hx hb hown hck hl hdg (hn.resolve_right (fun z => by cases z)) h k
  | ldc2_w v0 => exact zz_s1_ldc2_w hx hb hown hck hl hdg (hn.resolve_right (fun z => by cases z)) h k
  | tableswitch d0 lo hi os => exact zz_s1_tableswitch hx hb hl hdg ht h k
  | lookupswitch d0 ps => exact zz_s1_lookupswitch hx hb hl hdg ht h k
  | _ => simp [zz_st1] at h
end ZZ6

/-! the instructions that touch no heap: sound -/
section ZZ1
variable {p : Program} {l : Launch} {e : Env} {R : Room} {s : State} {m : MethodId} {args : Array Value} {below : List Frame} {meth : Method} {c : Code} {H : Heap} {locs : List Loc} {cells slots : Nat} {Q : State → Prop}
variable {cc : ByteArray} {pc : Nat} {ls : Array Slot} {ad : Nat → Nat} {own : String} {n nL pc' : Nat} {L L' st st' : List Value} {r : List Nat}
theorem zz_i2_inv {f : Int32 → Int32 → Int32} {x : zz_T} (h : zz_i2 f pc L st = some x) : ∃ a b t, st = .int b :: .int a :: t ∧ x = (pc + 1, L, .int (f a b) :: t) := by
  unfold zz_i2 at h
  split at h
  · cases h; exact ⟨_, _, _, rfl, rfl⟩
  · cases h
theorem zz_div_inv {f : Int32 → Int32 → Int32} {x : zz_T} (h : zz_div f pc L st = some x) : ∃ a b t, st = .int b :: .int a :: t ∧ ¬ b = 0 ∧ x = (pc + 1, L, .int (f a b) :: t) := by
  unfold zz_div at h
  split at h
  · split at h
    · cases h
    · cases h; exact ⟨_, _, _, rfl, ‹_›, rfl⟩
  · cases h
theorem zz_l2_inv {f : Int64 → Int64 → Int64} {x : zz_T} (h : zz_l2 f pc L st = some x) : ∃ a b t, st = .long b :: .long a :: t ∧ x = (pc + 1, L, .long (f a b) :: t) := by
  unfold zz_l2 at h
  split at h
  · cases h; exact ⟨_, _, _, rfl, rfl⟩
  · cases h
theorem zz_ls_inv {f : Int64 → Int32 → Int64} {x : zz_T} (h : zz_ls f pc L st = some x) : ∃ a b t, st = .int b :: .long a :: t ∧ x = (pc + 1, L, .long (f a b) :: t) := by
  unfold zz_ls at h
  split at h
  · cases h; exact ⟨_, _, _, rfl, rfl⟩
  · cases h
theorem zz_i1_inv {f : Int32 → Value} {x : zz_T} (h : zz_i1 f pc L st = some x) : ∃ a t, st = .int a :: t ∧ x = (pc + 1, L, f a :: t) := by
  unfold zz_i1 at h
  split at h
  · cases h; exact ⟨_, _, rfl, rfl⟩
  · cases h
theorem zz_il_inv {j : Nat} {v : Value} (h : zz_il L j = some v) : ∃ x, L[j]? = some (.int x) ∧ v = .int x := by
  unfold zz_il at h
  split at h
  · cases h; exact ⟨_, ‹_›, rfl⟩
  · cases h
theorem zz_ll_inv {j : Nat} {v : Value} (h : zz_ll L j = some v) : ∃ x, L[j]? = some (.long x) ∧ v = .long x := by
  unfold zz_ll at h
  split at h
  · cases h; exact ⟨_, ‹_›, rfl⟩
  · cases h
theorem zz_al_inv {j : Nat} {v : Value} (h : zz_al L j = some v) : (∃ x, L[j]? = some (.ref x) ∧ v = .ref x) ∨ (L[j]? = some .null ∧ v = .null) := by
  unfold zz_al at h
  split at h
  · cases h; exact Or.inl ⟨_, ‹_›, rfl⟩
  · cases h; exact Or.inr ⟨‹_›, rfl⟩
  · cases h
theorem zz_lr.at (h : zz_lr ad ls nL L) {j : Nat} {v : Value} (hj : L[j]? = some v) (hv : v ≠ zz_no) : ls[j]? = some (.val (zz_v ad v)) := h.2.2.2 j v hj hv
/-- what the constants of the pool are -/
def zz_ck (own : String) (i : Instr) (r : List Nat) (args : Array Value) (s : State) (sa : Nat → Nat) : Prop := match i with
  | .ldc k => (∀ b, r = [0, b] → (Jvm.Cond.constant own k (Int32.ofNat b)).before args s = true) ∧ ∀ j, r = [1, j] → ∃ tx, vk_R own k tx (sa j) s ∧ j < 1000000
  | .ldc_w k => (∀ b, r = [0, b] → (Jvm.Cond.constant own k (Int32.ofNat b)).before args s = true) ∧ ∀ j, r = [1, j] → ∃ tx, vk_R own k tx (sa j) s ∧ j < 1000000
  | .ldc2_w k => ∀ b, r = [b] → (Jvm.Cond.constantLong own k (Int64.ofNat b)).before args s = true
  | _ => True
theorem zz_ad_str {b0 : Nat} {sa : Nat → Nat} {b j : Nat} (hj : j < 1000000) : zz_ad b0 sa b (zz_SB + j) = sa j := by
  unfold zz_ad zz_SB zz_SC
  rw [if_neg (by omega), if_pos (by omega), Nat.add_sub_cancel_left]
theorem zz_s1_aconst_null (hx : p.tables.exec = Jvm.exec) (hb : c.code = cc) (hown : s.vm.findClass own = some m.cls) (hl : zz_lr ad ls nL L) (hdg : decode cc pc = .ok ((.aconst_null), n)) (hn : n = zz_len (.aconst_null)) (h : zz_st1 (.aconst_null) r pc L st = some (pc', L', st')) (k : ∀ ls' : Array Slot, zz_lr ad ls' nL L' → W p l e R s m args below meth c H locs cells slots Q (F0 m pc' ls' (st'.map (zz_v ad)))) : W p l e R s m args below meth c H locs cells slots Q (F0 m pc ls (st.map (zz_v ad))) := by
  subst hn
  simp only [zz_st1] at h
  cases h
  exact lv_null hx hb hdg (k ls hl)
theorem zz_s1_iconst {o : Int} (hx : p.tables.exec = Jvm.exec) (hb : c.code = cc) (hown : s.vm.findClass own = some m.cls) (hl : zz_lr ad ls nL L) (hdg : decode cc pc = .ok ((.iconst o), n)) (hn : n = zz_len (.iconst o)) (h : zz_st1 (.iconst o) r pc L st = some (pc', L', st')) (k : ∀ ls' : Array Slot, zz_lr ad ls' nL L' → W p l e R s m args below meth c H locs cells slots Q (F0 m pc' ls' (st'.map (zz_v ad)))) : W p l e R s m args below meth c H locs cells slots Q (F0 m pc ls (st.map (zz_v ad))) := by
  subst hn
  simp only [zz_st1] at h
  cases h
  exact lv_iconst hx hb hdg rfl (k ls hl)
theorem zz_s1_bipush {o : Int} (hx : p.tables.exec = Jvm.exec) (hb : c.code = cc) (hown : s.vm.findClass own = some m.cls) (hl : zz_lr ad ls nL L) (hdg : decode cc pc = .ok ((.bipush o), n)) (hn : n = zz_len (.bipush o)) (h : zz_st1 (.bipush o) r pc L st = some (pc', L', st')) (k : ∀ ls' : Array Slot, zz_lr ad ls' nL L' → W p l e R s m args below meth c H locs cells slots Q (F0 m pc' ls' (st'.map (zz_v ad)))) : W p l e R s m args below meth c H locs cells slots Q (F0 m pc ls (st.map (zz_v ad))) := by
  subst hn
  simp only [zz_st1] at h
  cases h
  exact lv_bipush hx hb hdg rfl (k ls hl)
theorem zz_s1_sipush {o : Int} (hx : p.tables.exec = Jvm.exec) (hb : c.code = cc) (hown : s.vm.findClass own = some m.cls) (hl : zz_lr ad ls nL L) (hdg : decode cc pc = .ok ((.sipush o), n)) (hn : n = zz_len (.sipush o)) (h : zz_st1 (.sipush o) r pc L st = some (pc', L', st')) (k : ∀ ls' : Array Slot, zz_lr ad ls' nL L' → W p l e R s m args below meth c H locs cells slots Q (F0 m pc' ls' (st'.map (zz_v ad)))) : W p l e R s m args below meth c H locs cells slots Q (F0 m pc ls (st.map (zz_v ad))) := by
  subst hn
  simp only [zz_st1] at h
  cases h
  exact lv_sipush hx hb hdg rfl (k ls hl)
theorem zz_s1_lconst {q : Fin 2} (hx : p.tables.exec = Jvm.exec) (hb : c.code = cc) (hown : s.vm.findClass own = some m.cls) (hl : zz_lr ad ls nL L) (hdg : decode cc pc = .ok ((.lconst q), n)) (hn : n = zz_len (.lconst q)) (h : zz_st1 (.lconst q) r pc L st = some (pc', L', st')) (k : ∀ ls' : Array Slot, zz_lr ad ls' nL L' → W p l e R s m args below meth c H locs cells slots Q (F0 m pc' ls' (st'.map (zz_v ad)))) : W p l e R s m args below meth c H locs cells slots Q (F0 m pc ls (st.map (zz_v ad))) := by
  subst hn
  simp only [zz_st1] at h
  cases h
  exact lv_lconst hx hb hdg rfl (k ls hl)
theorem zz_s1_iload {j : Nat} (hx : p.tables.exec = Jvm.exec) (hb : c.code = cc) (hown : s.vm.findClass own = some m.cls) (hl : zz_lr ad ls nL L) (hdg : decode cc pc = .ok ((.iload j), n)) (hn : n = zz_len (.iload j)) (h : zz_st1 (.iload j) r pc L st = some (pc', L', st')) (k : ∀ ls' : Array Slot, zz_lr ad ls' nL L' → W p l e R s m args below meth c H locs cells slots Q (F0 m pc' ls' (st'.map (zz_v ad)))) : W p l e R s m args below meth c H locs cells slots Q (F0 m pc ls (st.map (zz_v ad))) := by
  subst hn
  simp only [zz_st1] at h
  obtain ⟨v, hv, e0⟩ := Option.map_eq_some_iff.mp h
  obtain ⟨x, e1, rfl⟩ := zz_il_inv hv
  cases e0
  exact lv_iload hx hb hdg (hl.at e1 (fun z => by cases z)) (k ls hl)
theorem zz_s1_iload_n {f : Fin 4} (hx : p.tables.exec = Jvm.exec) (hb : c.code = cc) (hown : s.vm.findClass own = some m.cls) (hl : zz_lr ad ls nL L) (hdg : decode cc pc = .ok ((.iload_n f), n)) (hn : n = zz_len (.iload_n f)) (h : zz_st1 (.iload_n f) r pc L st = some (pc', L', st')) (k : ∀ ls' : Array Slot, zz_lr ad ls' nL L' → W p l e R s m args below meth c H locs cells slots Q (F0 m pc' ls' (st'.map (zz_v ad)))) : W p l e R s m args below meth c H locs cells slots Q (F0 m pc ls (st.map (zz_v ad))) := by
  subst hn
  simp only [zz_st1] at h
  obtain ⟨v, hv, e0⟩ := Option.map_eq_some_iff.mp h
  obtain ⟨x, e1, rfl⟩ := zz_il_inv hv
  cases e0
  exact lv_iload_n hx hb hdg rfl (hl.at e1 (fun z => by cases z)) (k ls hl)
theorem zz_s1_lload {j : Nat} (hx : p.tables.exec = Jvm.exec) (hb : c.code = cc) (hown : s.vm.findClass own = some m.cls) (hl : zz_lr ad ls nL L) (hdg : decode cc pc = .ok ((.lload j), n)) (hn : n = zz_len (.lload j)) (h : zz_st1 (.lload j) r pc L st = some (pc', L', st')) (k : ∀ ls' : Array Slot, zz_lr ad ls' nL L' → W p l e R s m args below meth c H locs cells slots Q (F0 m pc' ls' (st'.map (zz_v ad)))) : W p l e R s m args below meth c H locs cells slots Q (F0 m pc ls (st.map (zz_v ad))) := by
  subst hn
  simp only [zz_st1] at h
  obtain ⟨v, hv, e0⟩ := Option.map_eq_some_iff.mp h
  obtain ⟨x, e1, rfl⟩ := zz_ll_inv hv
  cases e0
  exact lv_lload hx hb hdg (hl.at e1 (fun z => by cases z)) (k ls hl)
theorem zz_s1_lload_n {f : Fin 4} (hx : p.tables.exec = Jvm.exec) (hb : c.code = cc) (hown : s.vm.findClass own = some m.cls) (hl : zz_lr ad ls nL L) (hdg : decode cc pc = .ok ((.lload_n f), n)) (hn : n = zz_len (.lload_n f)) (h : zz_st1 (.lload_n f) r pc L st = some (pc', L', st')) (k : ∀ ls' : Array Slot, zz_lr ad ls' nL L' → W p l e R s m args below meth c H locs cells slots Q (F0 m pc' ls' (st'.map (zz_v ad)))) : W p l e R s m args below meth c H locs cells slots Q (F0 m pc ls (st.map (zz_v ad))) := by
  subst hn
  simp only [zz_st1] at h
  obtain ⟨v, hv, e0⟩ := Option.map_eq_some_iff.mp h
  obtain ⟨x, e1, rfl⟩ := zz_ll_inv hv
  cases e0
  exact lv_lload_n hx hb hdg rfl (hl.at e1 (fun z => by cases z)) (k ls hl)
theorem zz_s1_aload {j : Nat} (hx : p.tables.exec = Jvm.exec) (hb : c.code = cc) (hown : s.vm.findClass own = some m.cls) (hl : zz_lr ad ls nL L) (hdg : decode cc pc = .ok ((.aload j), n)) (hn : n = zz_len (.aload j)) (h : zz_st1 (.aload j) r pc L st = some (pc', L', st')) (k : ∀ ls' : Array Slot, zz_lr ad ls' nL L' → W p l e R s m args below meth c H locs cells slots Q (F0 m pc' ls' (st'.map (zz_v ad)))) : W p l e R s m args below meth c H locs cells slots Q (F0 m pc ls (st.map (zz_v ad))) := by
  subst hn
  simp only [zz_st1] at h
  obtain ⟨v, hv, e0⟩ := Option.map_eq_some_iff.mp h
  rcases zz_al_inv hv with ⟨x, e1, rfl⟩ | ⟨e1, rfl⟩
  · cases e0
    exact lv_aload hx hb hdg (hl.at e1 (fun z => by cases z)) (k ls hl)
  · cases e0
    exact lv_aloadN hx hb hdg (hl.at e1 (fun z => by cases z)) (k ls hl)
theorem zz_s1_aload_n {f : Fin 4} (hx : p.tables.exec = Jvm.exec) (hb : c.code = cc) (hown : s.vm.findClass own = some m.cls) (hl : zz_lr ad ls nL L) (hdg : decode cc pc = .ok ((.aload_n f), n)) (hn : n = zz_len (.aload_n f)) (h : zz_st1 (.aload_n f) r pc L st = some (pc', L', st')) (k : ∀ ls' : Array Slot, zz_lr ad ls' nL L' → W p l e R s m args below meth c H locs cells slots Q (F0 m pc' ls' (st'.map (zz_v ad)))) : W p l e R s m args below meth c H locs cells slots Q (F0 m pc ls (st.map (zz_v ad))) := by
  subst hn
  simp only [zz_st1] at h
  obtain ⟨v, hv, e0⟩ := Option.map_eq_some_iff.mp h
  rcases zz_al_inv hv with ⟨x, e1, rfl⟩ | ⟨e1, rfl⟩
  · cases e0
    exact lv_aload_n hx hb hdg rfl (hl.at e1 (fun z => by cases z)) (k ls hl)
  · cases e0
    exact lv_aload_nN hx hb hdg rfl (hl.at e1 (fun z => by cases z)) (k ls hl)
theorem zz_s1_istore {j : Nat} (hx : p.tables.exec = Jvm.exec) (hb : c.code = cc) (hown : s.vm.findClass own = some m.cls) (hl : zz_lr ad ls nL L) (hdg : decode cc pc = .ok ((.istore j), n)) (hn : n = zz_len (.istore j)) (h : zz_st1 (.istore j) r pc L st = some (pc', L', st')) (k : ∀ ls' : Array Slot, zz_lr ad ls' nL L' → W p l e R s m args below meth c H locs cells slots Q (F0 m pc' ls' (st'.map (zz_v ad)))) : W p l e R s m args below meth c H locs cells slots Q (F0 m pc ls (st.map (zz_v ad))) := by
  subst hn
  simp only [zz_st1] at h
  split at h
  · split at h
    · next hj =>
      cases h
      exact lv_istore hx hb hdg hl.has (by rw [← hl.2.1]; exact hj) rfl (fun ls' h' => k ls' (hl.set1 h'))
    · cases h
  · cases h
theorem zz_s1_istore_n {f : Fin 4} (hx : p.tables.exec = Jvm.exec) (hb : c.code = cc) (hown : s.vm.findClass own = some m.cls) (hl : zz_lr ad ls nL L) (hdg : decode cc pc = .ok ((.istore_n f), n)) (hn : n = zz_len (.istore_n f)) (h : zz_st1 (.istore_n f) r pc L st = some (pc', L', st')) (k : ∀ ls' : Array Slot, zz_lr ad ls' nL L' → W p l e R s m args below meth c H locs cells slots Q (F0 m pc' ls' (st'.map (zz_v ad)))) : W p l e R s m args below meth c H locs cells slots Q (F0 m pc ls (st.map (zz_v ad))) := by
  subst hn
  simp only [zz_st1] at h
  split at h
  · split at h
    · next hj =>
      cases h
      exact lv_istore_n hx hb hdg rfl hl.has (by rw [← hl.2.1]; exact hj) rfl (fun ls' h' => k ls' (hl.set1 h'))
    · cases h
  · cases h
theorem zz_s1_lstore {j : Nat} (hx : p.tables.exec = Jvm.exec) (hb : c.code = cc) (hown : s.vm.findClass own = some m.cls) (hl : zz_lr ad ls nL L) (hdg : decode cc pc = .ok ((.lstore j), n)) (hn : n = zz_len (.lstore j)) (h : zz_st1 (.lstore j) r pc L st = some (pc', L', st')) (k : ∀ ls' : Array Slot, zz_lr ad ls' nL L' → W p l e R s m args below meth c H locs cells slots Q (F0 m pc' ls' (st'.map (zz_v ad)))) : W p l e R s m args below meth c H locs cells slots Q (F0 m pc ls (st.map (zz_v ad))) := by
  subst hn
  simp only [zz_st1] at h
  split at h
  · split at h
    · next hj =>
      cases h
      exact lv_lstore hx hb hdg hl.has (by rw [← hl.2.1]; exact hj) rfl (fun ls' h' => k ls' (hl.set2 h'))
    · cases h
  · cases h
theorem zz_s1_lstore_n {f : Fin 4} (hx : p.tables.exec = Jvm.exec) (hb : c.code = cc) (hown : s.vm.findClass own = some m.cls) (hl : zz_lr ad ls nL L) (hdg : decode cc pc = .ok ((.lstore_n f), n)) (hn : n = zz_len (.lstore_n f)) (h : zz_st1 (.lstore_n f) r pc L st = some (pc', L', st')) (k : ∀ ls' : Array Slot, zz_lr ad ls' nL L' → W p l e R s m args below meth c H locs cells slots Q (F0 m pc' ls' (st'.map (zz_v ad)))) : W p l e R s m args below meth c H locs cells slots Q (F0 m pc ls (st.map (zz_v ad))) := by
  subst hn
  simp only [zz_st1] at h
  split at h
  · split at h
    · next hj =>
      cases h
      exact lv_lstore_n hx hb hdg rfl hl.has (by rw [← hl.2.1]; exact hj) rfl (fun ls' h' => k ls' (hl.set2 h'))
    · cases h
  · cases h
theorem zz_s1_astore {j : Nat} (hx : p.tables.exec = Jvm.exec) (hb : c.code = cc) (hown : s.vm.findClass own = some m.cls) (hl : zz_lr ad ls nL L) (hdg : decode cc pc = .ok ((.astore j), n)) (hn : n = zz_len (.astore j)) (h : zz_st1 (.astore j) r pc L st = some (pc', L', st')) (k : ∀ ls' : Array Slot, zz_lr ad ls' nL L' → W p l e R s m args below meth c H locs cells slots Q (F0 m pc' ls' (st'.map (zz_v ad)))) : W p l e R s m args below meth c H locs cells slots Q (F0 m pc ls (st.map (zz_v ad))) := by
  subst hn
  simp only [zz_st1] at h
  split at h
  · split at h
    · next hj =>
      cases h
      exact lv_astore hx hb hdg hl.has (by rw [← hl.2.1]; exact hj) rfl (fun ls' h' => k ls' (hl.set1 (v := .ref _) h'))
    · cases h
  · split at h
    · next hj =>
      cases h
      exact lv_astoreN hx hb hdg hl.has (by rw [← hl.2.1]; exact hj) rfl (fun ls' h' => k ls' (hl.set1 (v := .null) h'))
    · cases h
  · cases h
theorem zz_s1_astore_n {f : Fin 4} (hx : p.tables.exec = Jvm.exec) (hb : c.code = cc) (hown : s.vm.findClass own = some m.cls) (hl : zz_lr ad ls nL L) (hdg : decode cc pc = .ok ((.astore_n f), n)) (hn : n = zz_len (.astore_n f)) (h : zz_st1 (.astore_n f) r pc L st = some (pc', L', st')) (k : ∀ ls' : Array Slot, zz_lr ad ls' nL L' → W p l e R s m args below meth c H locs cells slots Q (F0 m pc' ls' (st'.map (zz_v ad)))) : W p l e R s m args below meth c H locs cells slots Q (F0 m pc ls (st.map (zz_v ad))) := by
  subst hn
  simp only [zz_st1] at h
  split at h
  · split at h
    · next hj =>
      cases h
      exact lv_astore_n hx hb hdg rfl hl.has (by rw [← hl.2.1]; exact hj) rfl (fun ls' h' => k ls' (hl.set1 (v := .ref _) h'))
    · cases h
  · split at h
    · next hj =>
      cases h
      exact lv_astore_nN hx hb hdg rfl hl.has (by rw [← hl.2.1]; exact hj) rfl (fun ls' h' => k ls' (hl.set1 (v := .null) h'))
    · cases h
  · cases h
theorem zz_s1_iinc {j : Nat} {o : Int} (hx : p.tables.exec = Jvm.exec) (hb : c.code = cc) (hown : s.vm.findClass own = some m.cls) (hl : zz_lr ad ls nL L) (hdg : decode cc pc = .ok ((.iinc j o), n)) (hn : n = zz_len (.iinc j o)) (h : zz_st1 (.iinc j o) r pc L st = some (pc', L', st')) (k : ∀ ls' : Array Slot, zz_lr ad ls' nL L' → W p l e R s m args below meth c H locs cells slots Q (F0 m pc' ls' (st'.map (zz_v ad)))) : W p l e R s m args below meth c H locs cells slots Q (F0 m pc ls (st.map (zz_v ad))) := by
  subst hn
  simp only [zz_st1] at h
  split at h
  · next x hj =>
    cases h
    obtain ⟨k0, hk0⟩ := List.getElem?_of_mem (zz_as_mem (ad := ad) (q := (j, .int x)) |>.mpr ⟨.int x, hj, (fun z => by cases z), rfl⟩)
    exact lv_iinc hx hb hdg hl.has hk0 rfl (by rw [← hl.2.1]; exact (List.getElem?_eq_some_iff.mp hj).1) rfl (fun ls' h' => k ls' (hl.set1 (v := .int (x + Int32.ofInt o)) h'))
  · cases h
theorem zz_s1_iadd (hx : p.tables.exec = Jvm.exec) (hb : c.code = cc) (hown : s.vm.findClass own = some m.cls) (hl : zz_lr ad ls nL L) (hdg : decode cc pc = .ok ((.iadd), n)) (hn : n = zz_len (.iadd)) (h : zz_st1 (.iadd) r pc L st = some (pc', L', st')) (k : ∀ ls' : Array Slot, zz_lr ad ls' nL L' → W p l e R s m args below meth c H locs cells slots Q (F0 m pc' ls' (st'.map (zz_v ad)))) : W p l e R s m args below meth c H locs cells slots Q (F0 m pc ls (st.map (zz_v ad))) := by
  subst hn
  simp only [zz_st1] at h
  obtain ⟨a, b, t, rfl, e0⟩ := zz_i2_inv h
  cases e0
  exact lv_iadd hx hb hdg (k ls hl)
theorem zz_s1_isub (hx : p.tables.exec = Jvm.exec) (hb : c.code = cc) (hown : s.vm.findClass own = some m.cls) (hl : zz_lr ad ls nL L) (hdg : decode cc pc = .ok ((.isub), n)) (hn : n = zz_len (.isub)) (h : zz_st1 (.isub) r pc L st = some (pc', L', st')) (k : ∀ ls' : Array Slot, zz_lr ad ls' nL L' → W p l e R s m args below meth c H locs cells slots Q (F0 m pc' ls' (st'.map (zz_v ad)))) : W p l e R s m args below meth c H locs cells slots Q (F0 m pc ls (st.map (zz_v ad))) := by
  subst hn
  simp only [zz_st1] at h
  obtain ⟨a, b, t, rfl, e0⟩ := zz_i2_inv h
  cases e0
  exact lv_isub hx hb hdg (k ls hl)
theorem zz_s1_imul (hx : p.tables.exec = Jvm.exec) (hb : c.code = cc) (hown : s.vm.findClass own = some m.cls) (hl : zz_lr ad ls nL L) (hdg : decode cc pc = .ok ((.imul), n)) (hn : n = zz_len (.imul)) (h : zz_st1 (.imul) r pc L st = some (pc', L', st')) (k : ∀ ls' : Array Slot, zz_lr ad ls' nL L' → W p l e R s m args below meth c H locs cells slots Q (F0 m pc' ls' (st'.map (zz_v ad)))) : W p l e R s m args below meth c H locs cells slots Q (F0 m pc ls (st.map (zz_v ad))) := by
  subst hn
  simp only [zz_st1] at h
  obtain ⟨a, b, t, rfl, e0⟩ := zz_i2_inv h
  cases e0
  exact lv_imul hx hb hdg (k ls hl)
theorem zz_s1_iand (hx : p.tables.exec = Jvm.exec) (hb : c.code = cc) (hown : s.vm.findClass own = some m.cls) (hl : zz_lr ad ls nL L) (hdg : decode cc pc = .ok ((.iand), n)) (hn : n = zz_len (.iand)) (h : zz_st1 (.iand) r pc L st = some (pc', L', st')) (k : ∀ ls' : Array Slot, zz_lr ad ls' nL L' → W p l e R s m args below meth c H locs cells slots Q (F0 m pc' ls' (st'.map (zz_v ad)))) : W p l e R s m args below meth c H locs cells slots Q (F0 m pc ls (st.map (zz_v ad))) := by
  subst hn
  simp only [zz_st1] at h
  obtain ⟨a, b, t, rfl, e0⟩ := zz_i2_inv h
  cases e0
  exact lv_iand hx hb hdg (k ls hl)
theorem zz_s1_ior (hx : p.tables.exec = Jvm.exec) (hb : c.code = cc) (hown : s.vm.findClass own = some m.cls) (hl : zz_lr ad ls nL L) (hdg : decode cc pc = .ok ((.ior), n)) (hn : n = zz_len (.ior)) (h : zz_st1 (.ior) r pc L st = some (pc', L', st')) (k : ∀ ls' : Array Slot, zz_lr ad ls' nL L' → W p l e R s m args below meth c H locs cells slots Q (F0 m pc' ls' (st'.map (zz_v ad)))) : W p l e R s m args below meth c H locs cells slots Q (F0 m pc ls (st.map (zz_v ad))) := by
  subst hn
  simp only [zz_st1] at h
  obtain ⟨a, b, t, rfl, e0⟩ := zz_i2_inv h
  cases e0
  exact lv_ior hx hb hdg (k ls hl)
theorem zz_s1_ixor (hx : p.tables.exec = Jvm.exec) (hb : c.code = cc) (hown : s.vm.findClass own = some m.cls) (hl : zz_lr ad ls nL L) (hdg : decode cc pc = .ok ((.ixor), n)) (hn : n = zz_len (.ixor)) (h : zz_st1 (.ixor) r pc L st = some (pc', L', st')) (k : ∀ ls' : Array Slot, zz_lr ad ls' nL L' → W p l e R s m args below meth c H locs cells slots Q (F0 m pc' ls' (st'.map (zz_v ad)))) : W p l e R s m args below meth c H locs cells slots Q (F0 m pc ls (st.map (zz_v ad))) := by
  subst hn
  simp only [zz_st1] at h
  obtain ⟨a, b, t, rfl, e0⟩ := zz_i2_inv h
  cases e0
  exact lv_ixor hx hb hdg (k ls hl)
theorem zz_s1_ishl (hx : p.tables.exec = Jvm.exec) (hb : c.code = cc) (hown : s.vm.findClass own = some m.cls) (hl : zz_lr ad ls nL L) (hdg : decode cc pc = .ok ((.ishl), n)) (hn : n = zz_len (.ishl)) (h : zz_st1 (.ishl) r pc L st = some (pc', L', st')) (k : ∀ ls' : Array Slot, zz_lr ad ls' nL L' → W p l e R s m args below meth c H locs cells slots Q (F0 m pc' ls' (st'.map (zz_v ad)))) : W p l e R s m args below meth c H locs cells slots Q (F0 m pc ls (st.map (zz_v ad))) := by
  subst hn
  simp only [zz_st1] at h
  obtain ⟨a, b, t, rfl, e0⟩ := zz_i2_inv h
  cases e0
  exact lv_ishl hx hb hdg (k ls hl)
theorem zz_s1_ishr (hx : p.tables.exec = Jvm.exec) (hb : c.code = cc) (hown : s.vm.findClass own = some m.cls) (hl : zz_lr ad ls nL L) (hdg : decode cc pc = .ok ((.ishr), n)) (hn : n = zz_len (.ishr)) (h : zz_st1 (.ishr) r pc L st = some (pc', L', st')) (k : ∀ ls' : Array Slot, zz_lr ad ls' nL L' → W p l e R s m args below meth c H locs cells slots Q (F0 m pc' ls' (st'.map (zz_v ad)))) : W p l e R s m args below meth c H locs cells slots Q (F0 m pc ls (st.map (zz_v ad))) := by
  subst hn
  simp only [zz_st1] at h
  obtain ⟨a, b, t, rfl, e0⟩ := zz_i2_inv h
  cases e0
  exact lv_ishr hx hb hdg (k ls hl)
theorem zz_s1_iushr (hx : p.tables.exec = Jvm.exec) (hb : c.code = cc) (hown : s.vm.findClass own = some m.cls) (hl : zz_lr ad ls nL L) (hdg : decode cc pc = .ok ((.iushr), n)) (hn : n = zz_len (.iushr)) (h : zz_st1 (.iushr) r pc L st = some (pc', L', st')) (k : ∀ ls' : Array Slot, zz_lr ad ls' nL L' → W p l e R s m args below meth c H locs cells slots Q (F0 m pc' ls' (st'.map (zz_v ad)))) : W p l e R s m args below meth c H locs cells slots Q (F0 m pc ls (st.map (zz_v ad))) := by
  subst hn
  simp only [zz_st1] at h
  obtain ⟨a, b, t, rfl, e0⟩ := zz_i2_inv h
  cases e0
  exact lv_iushr hx hb hdg rfl (k ls hl)
theorem zz_s1_idiv (hx : p.tables.exec = Jvm.exec) (hb : c.code = cc) (hown : s.vm.findClass own = some m.cls) (hl : zz_lr ad ls nL L) (hdg : decode cc pc = .ok ((.idiv), n)) (hn : n = zz_len (.idiv)) (h : zz_st1 (.idiv) r pc L st = some (pc', L', st')) (k : ∀ ls' : Array Slot, zz_lr ad ls' nL L' → W p l e R s m args below meth c H locs cells slots Q (F0 m pc' ls' (st'.map (zz_v ad)))) : W p l e R s m args below meth c H locs cells slots Q (F0 m pc ls (st.map (zz_v ad))) := by
  subst hn
  simp only [zz_st1] at h
  obtain ⟨a, b, t, rfl, h0, e0⟩ := zz_div_inv h
  cases e0
  exact lv_idiv hx hb hdg h0 (k ls hl)
theorem zz_s1_irem (hx : p.tables.exec = Jvm.exec) (hb : c.code = cc) (hown : s.vm.findClass own = some m.cls) (hl : zz_lr ad ls nL L) (hdg : decode cc pc = .ok ((.irem), n)) (hn : n = zz_len (.irem)) (h : zz_st1 (.irem) r pc L st = some (pc', L', st')) (k : ∀ ls' : Array Slot, zz_lr ad ls' nL L' → W p l e R s m args below meth c H locs cells slots Q (F0 m pc' ls' (st'.map (zz_v ad)))) : W p l e R s m args below meth c H locs cells slots Q (F0 m pc ls (st.map (zz_v ad))) := by
  subst hn
  simp only [zz_st1] at h
  obtain ⟨a, b, t, rfl, h0, e0⟩ := zz_div_inv h
  cases e0
  exact lv_irem hx hb hdg h0 (k ls hl)
theorem zz_s1_ladd (hx : p.tables.exec = Jvm.exec) (hb : c.code = cc) (hown : s.vm.findClass own = some m.cls) (hl : zz_lr ad ls nL L) (hdg : decode cc pc = .ok ((.ladd), n)) (hn : n = zz_len (.ladd)) (h : zz_st1 (.ladd) r pc L st = some (pc', L', st')) (k : ∀ ls' : Array Slot, zz_lr ad ls' nL L' → W p l e R s m args below meth c H locs cells slots Q (F0 m pc' ls' (st'.map (zz_v ad)))) : W p l e R s m args below meth c H locs cells slots Q (F0 m pc ls (st.map (zz_v ad))) := by
  subst hn
  simp only [zz_st1] at h
  obtain ⟨a, b, t, rfl, e0⟩ := zz_l2_inv h
  cases e0
  exact lv_ladd hx hb hdg (k ls hl)
theorem zz_s1_land (hx : p.tables.exec = Jvm.exec) (hb : c.code = cc) (hown : s.vm.findClass own = some m.cls) (hl : zz_lr ad ls nL L) (hdg : decode cc pc = .ok ((.land), n)) (hn : n = zz_len (.land)) (h : zz_st1 (.land) r pc L st = some (pc', L', st')) (k : ∀ ls' : Array Slot, zz_lr ad ls' nL L' → W p l e R s m args below meth c H locs cells slots Q (F0 m pc' ls' (st'.map (zz_v ad)))) : W p l e R s m args below meth c H locs cells slots Q (F0 m pc ls (st.map (zz_v ad))) := by
  subst hn
  simp only [zz_st1] at h
  obtain ⟨a, b, t, rfl, e0⟩ := zz_l2_inv h
  cases e0
  exact lv_land hx hb hdg (k ls hl)
theorem zz_s1_lor (hx : p.tables.exec = Jvm.exec) (hb : c.code = cc) (hown : s.vm.findClass own = some m.cls) (hl : zz_lr ad ls nL L) (hdg : decode cc pc = .ok ((.lor), n)) (hn : n = zz_len (.lor)) (h : zz_st1 (.lor) r pc L st = some (pc', L', st')) (k : ∀ ls' : Array Slot, zz_lr ad ls' nL L' → W p l e R s m args below meth c H locs cells slots Q (F0 m pc' ls' (st'.map (zz_v ad)))) : W p l e R s m args below meth c H locs cells slots Q (F0 m pc ls (st.map (zz_v ad))) := by
  subst hn
  simp only [zz_st1] at h
  obtain ⟨a, b, t, rfl, e0⟩ := zz_l2_inv h
  cases e0
  exact lv_lor hx hb hdg (k ls hl)
theorem zz_s1_lshl (hx : p.tables.exec = Jvm.exec) (hb : c.code = cc) (hown : s.vm.findClass own = some m.cls) (hl : zz_lr ad ls nL L) (hdg : decode cc pc = .ok ((.lshl), n)) (hn : n = zz_len (.lshl)) (h : zz_st1 (.lshl) r pc L st = some (pc', L', st')) (k : ∀ ls' : Array Slot, zz_lr ad ls' nL L' → W p l e R s m args below meth c H locs cells slots Q (F0 m pc' ls' (st'.map (zz_v ad)))) : W p l e R s m args below meth c H locs cells slots Q (F0 m pc ls (st.map (zz_v ad))) := by
  subst hn
  simp only [zz_st1] at h
  obtain ⟨a, b, t, rfl, e0⟩ := zz_ls_inv h
  cases e0
  exact lv_lshl hx hb hdg rfl (k ls hl)
theorem zz_s1_lshr (hx : p.tables.exec = Jvm.exec) (hb : c.code = cc) (hown : s.vm.findClass own = some m.cls) (hl : zz_lr ad ls nL L) (hdg : decode cc pc = .ok ((.lshr), n)) (hn : n = zz_len (.lshr)) (h : zz_st1 (.lshr) r pc L st = some (pc', L', st')) (k : ∀ ls' : Array Slot, zz_lr ad ls' nL L' → W p l e R s m args below meth c H locs cells slots Q (F0 m pc' ls' (st'.map (zz_v ad)))) : W p l e R s m args below meth c H locs cells slots Q (F0 m pc ls (st.map (zz_v ad))) := by
  subst hn
  simp only [zz_st1] at h
  obtain ⟨a, b, t, rfl, e0⟩ := zz_ls_inv h
  cases e0
  exact lv_lshr hx hb hdg rfl (k ls hl)
theorem zz_s1_lushr (hx : p.tables.exec = Jvm.exec) (hb : c.code = cc) (hown : s.vm.findClass own = some m.cls) (hl : zz_lr ad ls nL L) (hdg : decode cc pc = .ok ((.lushr), n)) (hn : n = zz_len (.lushr)) (h : zz_st1 (.lushr) r pc L st = some (pc', L', st')) (k : ∀ ls' : Array Slot, zz_lr ad ls' nL L' → W p l e R s m args below meth c H locs cells slots Q (F0 m pc' ls' (st'.map (zz_v ad)))) : W p l e R s m args below meth c H locs cells slots Q (F0 m pc ls (st.map (zz_v ad))) := by
  subst hn
  simp only [zz_st1] at h
  obtain ⟨a, b, t, rfl, e0⟩ := zz_ls_inv h
  cases e0
  exact lv_lushr hx hb hdg rfl (k ls hl)
theorem zz_s1_lcmp (hx : p.tables.exec = Jvm.exec) (hb : c.code = cc) (hown : s.vm.findClass own = some m.cls) (hl : zz_lr ad ls nL L) (hdg : decode cc pc = .ok ((.lcmp), n)) (hn : n = zz_len (.lcmp)) (h : zz_st1 (.lcmp) r pc L st = some (pc', L', st')) (k : ∀ ls' : Array Slot, zz_lr ad ls' nL L' → W p l e R s m args below meth c H locs cells slots Q (F0 m pc' ls' (st'.map (zz_v ad)))) : W p l e R s m args below meth c H locs cells slots Q (F0 m pc ls (st.map (zz_v ad))) := by
  subst hn
  simp only [zz_st1] at h
  split at h
  · cases h
    exact W.lcmp hx hb hdg (k ls hl)
  · cases h
theorem zz_s1_ineg (hx : p.tables.exec = Jvm.exec) (hb : c.code = cc) (hown : s.vm.findClass own = some m.cls) (hl : zz_lr ad ls nL L) (hdg : decode cc pc = .ok ((.ineg), n)) (hn : n = zz_len (.ineg)) (h : zz_st1 (.ineg) r pc L st = some (pc', L', st')) (k : ∀ ls' : Array Slot, zz_lr ad ls' nL L' → W p l e R s m args below meth c H locs cells slots Q (F0 m pc' ls' (st'.map (zz_v ad)))) : W p l e R s m args below meth c H locs cells slots Q (F0 m pc ls (st.map (zz_v ad))) := by
  subst hn
  simp only [zz_st1] at h
  obtain ⟨a, t, rfl, e0⟩ := zz_i1_inv h
  cases e0
  exact lv_ineg hx hb hdg (k ls hl)
theorem zz_s1_i2l (hx : p.tables.exec = Jvm.exec) (hb : c.code = cc) (hown : s.vm.findClass own = some m.cls) (hl : zz_lr ad ls nL L) (hdg : decode cc pc = .ok ((.i2l), n)) (hn : n = zz_len (.i2l)) (h : zz_st1 (.i2l) r pc L st = some (pc', L', st')) (k : ∀ ls' : Array Slot, zz_lr ad ls' nL L' → W p l e R s m args below meth c H locs cells slots Q (F0 m pc' ls' (st'.map (zz_v ad)))) : W p l e R s m args below meth c H locs cells slots Q (F0 m pc ls (st.map (zz_v ad))) := by
  subst hn
  simp only [zz_st1] at h
  obtain ⟨a, t, rfl, e0⟩ := zz_i1_inv h
  cases e0
  exact lv_i2l hx hb hdg rfl (k ls hl)
theorem zz_s1_i2c (hx : p.tables.exec = Jvm.exec) (hb : c.code = cc) (hown : s.vm.findClass own = some m.cls) (hl : zz_lr ad ls nL L) (hdg : decode cc pc = .ok ((.i2c), n)) (hn : n = zz_len (.i2c)) (h : zz_st1 (.i2c) r pc L st = some (pc', L', st')) (k : ∀ ls' : Array Slot, zz_lr ad ls' nL L' → W p l e R s m args below meth c H locs cells slots Q (F0 m pc' ls' (st'.map (zz_v ad)))) : W p l e R s m args below meth c H locs cells slots Q (F0 m pc ls (st.map (zz_v ad))) := by
  subst hn
  simp only [zz_st1] at h
  obtain ⟨a, t, rfl, e0⟩ := zz_i1_inv h
  cases e0
  exact lv_i2c hx hb hdg rfl (k ls hl)
theorem zz_s1_l2i (hx : p.tables.exec = Jvm.exec) (hb : c.code = cc) (hown : s.vm.findClass own = some m.cls) (hl : zz_lr ad ls nL L) (hdg : decode cc pc = .ok ((.l2i), n)) (hn : n = zz_len (.l2i)) (h : zz_st1 (.l2i) r pc L st = some (pc', L', st')) (k : ∀ ls' : Array Slot, zz_lr ad ls' nL L' → W p l e R s m args below meth c H locs cells slots Q (F0 m pc' ls' (st'.map (zz_v ad)))) : W p l e R s m args below meth c H locs cells slots Q (F0 m pc ls (st.map (zz_v ad))) := by
  subst hn
  simp only [zz_st1] at h
  split at h
  · cases h
    exact lv_l2i hx hb hdg rfl (k ls hl)
  · cases h
theorem zz_s1_dup (hx : p.tables.exec = Jvm.exec) (hb : c.code = cc) (hown : s.vm.findClass own = some m.cls) (hl : zz_lr ad ls nL L) (hdg : decode cc pc = .ok ((.dup), n)) (hn : n = zz_len (.dup)) (h : zz_st1 (.dup) r pc L st = some (pc', L', st')) (k : ∀ ls' : Array Slot, zz_lr ad ls' nL L' → W p l e R s m args below meth c H locs cells slots Q (F0 m pc' ls' (st'.map (zz_v ad)))) : W p l e R s m args below meth c H locs cells slots Q (F0 m pc ls (st.map (zz_v ad))) := by
  subst hn
  simp only [zz_st1] at h
  split at h
  · cases h
    exact lv_dup hx hb hdg rfl (k ls hl)
  · cases h
    exact lv_dup hx hb hdg rfl (k ls hl)
  · cases h
theorem zz_s1_dup2 (hx : p.tables.exec = Jvm.exec) (hb : c.code = cc) (hown : s.vm.findClass own = some m.cls) (hl : zz_lr ad ls nL L) (hdg : decode cc pc = .ok ((.dup2), n)) (hn : n = zz_len (.dup2)) (h : zz_st1 (.dup2) r pc L st = some (pc', L', st')) (k : ∀ ls' : Array Slot, zz_lr ad ls' nL L' → W p l e R s m args below meth c H locs cells slots Q (F0 m pc' ls' (st'.map (zz_v ad)))) : W p l e R s m args below meth c H locs cells slots Q (F0 m pc ls (st.map (zz_v ad))) := by
  subst hn
  simp only [zz_st1] at h
  split at h
  · cases h
    exact lv_dup2_11 hx hb hdg rfl rfl (k ls hl)
  · cases h
theorem zz_s1_dup_x1 (hx : p.tables.exec = Jvm.exec) (hb : c.code = cc) (hown : s.vm.findClass own = some m.cls) (hl : zz_lr ad ls nL L) (hdg : decode cc pc = .ok ((.dup_x1), n)) (hn : n = zz_len (.dup_x1)) (h : zz_st1 (.dup_x1) r pc L st = some (pc', L', st')) (k : ∀ ls' : Array Slot, zz_lr ad ls' nL L' → W p l e R s m args below meth c H locs cells slots Q (F0 m pc' ls' (st'.map (zz_v ad)))) : W p l e R s m args below meth c H locs cells slots Q (F0 m pc ls (st.map (zz_v ad))) := by
  subst hn
  simp only [zz_st1] at h
  split at h
  · cases h
    exact lv_dup_x1 hx hb hdg rfl rfl (k ls hl)
  · cases h
theorem zz_s1_pop (hx : p.tables.exec = Jvm.exec) (hb : c.code = cc) (hown : s.vm.findClass own = some m.cls) (hl : zz_lr ad ls nL L) (hdg : decode cc pc = .ok ((.pop), n)) (hn : n = zz_len (.pop)) (h : zz_st1 (.pop) r pc L st = some (pc', L', st')) (k : ∀ ls' : Array Slot, zz_lr ad ls' nL L' → W p l e R s m args below meth c H locs cells slots Q (F0 m pc' ls' (st'.map (zz_v ad)))) : W p l e R s m args below meth c H locs cells slots Q (F0 m pc ls (st.map (zz_v ad))) := by
  subst hn
  simp only [zz_st1] at h
  split at h
  · cases h
    exact lv_pop hx hb hdg rfl (k ls hl)
  · cases h
    exact lv_pop hx hb hdg rfl (k ls hl)
  · cases h
theorem zz_s1_ifCond {cd : ClassFile.Cond} {o : Int} (hx : p.tables.exec = Jvm.exec) (hb : c.code = cc) (hown : s.vm.findClass own = some m.cls) (hl : zz_lr ad ls nL L) (hdg : decode cc pc = .ok ((.ifCond cd o), n)) (hn : n = zz_len (.ifCond cd o)) (ht : zz_tg (.ifCond cd o) r pc) (h : zz_st1 (.ifCond cd o) r pc L st = some (pc', L', st')) (k : ∀ ls' : Array Slot, zz_lr ad ls' nL L' → W p l e R s m args below meth c H locs cells slots Q (F0 m pc' ls' (st'.map (zz_v ad)))) : W p l e R s m args below meth c H locs cells slots Q (F0 m pc ls (st.map (zz_v ad))) := by
  subst hn
  simp only [zz_st1] at h
  split at h
  · next _ _ x t g =>
    have ht1 := ht g rfl
    cases h
    clear ht
    cases cd
    · refine lv_if_eq hx hb hdg ht1 (fun z => ?_) (fun z => ?_)
      · have := k ls hl
        simpa [zz_if, z] using this
      · have := k ls hl
        simpa [zz_if, z] using this
    · refine lv_if_ne hx hb hdg ht1 (fun z => ?_) (fun z => ?_)
      · have := k ls hl
        simpa [zz_if, z] using this
      · have := k ls hl
        simpa [zz_if, z] using this
    · refine lv_if_lt hx hb hdg ht1 (fun z => ?_) (fun z => ?_)
      · have := k ls hl
        simpa [zz_if, z] using this
      · have := k ls hl
        simpa [zz_if, z] using this
    · refine lv_if_ge hx hb hdg ht1 (fun z => ?_) (fun z => ?_)
      · have := k ls hl
        simpa [zz_if, z] using this
      · have := k ls hl
        simpa [zz_if, z] using this
    · refine lv_if_gt hx hb hdg ht1 (fun z => ?_) (fun z => ?_)
      · have := k ls hl
        simpa [zz_if, z] using this
      · have := k ls hl
        simpa [zz_if, z] using this
    · refine lv_if_le hx hb hdg ht1 (fun z => ?_) (fun z => ?_)
      · have := k ls hl
        simpa [zz_if, z] using this
      · have := k ls hl
        simpa [zz_if, z] using this
  · cases h
theorem zz_s1_if_icmp {cd : ClassFile.Cond} {o : Int} (hx : p.tables.exec = Jvm.exec) (hb : c.code = cc) (hown : s.vm.findClass own = some m.cls) (hl : zz_lr ad ls nL L) (hdg : decode cc pc = .ok ((.if_icmp cd o), n)) (hn : n = zz_len (.if_icmp cd o)) (ht : zz_tg (.if_icmp cd o) r pc) (h : zz_st1 (.if_icmp cd o) r pc L st = some (pc', L', st')) (k : ∀ ls' : Array Slot, zz_lr ad ls' nL L' → W p l e R s m args below meth c H locs cells slots Q (F0 m pc' ls' (st'.map (zz_v ad)))) : W p l e R s m args below meth c H locs cells slots Q (F0 m pc ls (st.map (zz_v ad))) := by
  subst hn
  simp only [zz_st1] at h
  split at h
  · next _ _ y x t g =>
    have ht1 := ht g rfl
    cases h
    clear ht
    cases cd
    · refine lv_icmp_eq hx hb hdg ht1 (fun z => ?_) (fun z => ?_)
      · have := k ls hl
        simpa [zz_if, z] using this
      · have := k ls hl
        simpa [zz_if, z] using this
    · refine lv_icmp_ne hx hb hdg ht1 (fun z => ?_) (fun z => ?_)
      · have := k ls hl
        simpa [zz_if, z] using this
      · have := k ls hl
        simpa [zz_if, z] using this
    · refine lv_icmp_lt hx hb hdg ht1 (fun z => ?_) (fun z => ?_)
      · have := k ls hl
        simpa [zz_if, z] using this
      · have := k ls hl
        simpa [zz_if, z] using this
    · refine lv_icmp_ge hx hb hdg ht1 (fun z => ?_) (fun z => ?_)
      · have := k ls hl
        simpa [zz_if, z] using this
      · have := k ls hl
        simpa [zz_if, z] using this
    · refine lv_icmp_gt hx hb hdg ht1 (fun z => ?_) (fun z => ?_)
      · have := k ls hl
        simpa [zz_if, z] using this
      · have := k ls hl
        simpa [zz_if, z] using this
    · refine lv_icmp_le hx hb hdg ht1 (fun z => ?_) (fun z => ?_)
      · have := k ls hl
        simpa [zz_if, z] using this
      · have := k ls hl
        simpa [zz_if, z] using this
  · cases h
theorem zz_s1_ifnull {o : Int} (hx : p.tables.exec = Jvm.exec) (hb : c.code = cc) (hown : s.vm.findClass own = some m.cls) (hl : zz_lr ad ls nL L) (hdg : decode cc pc = .ok ((.ifnull o), n)) (hn : n = zz_len (.ifnull o)) (ht : zz_tg (.ifnull o) r pc) (h : zz_st1 (.ifnull o) r pc L st = some (pc', L', st')) (k : ∀ ls' : Array Slot, zz_lr ad ls' nL L' → W p l e R s m args below meth c H locs cells slots Q (F0 m pc' ls' (st'.map (zz_v ad)))) : W p l e R s m args below meth c H locs cells slots Q (F0 m pc ls (st.map (zz_v ad))) := by
  subst hn
  simp only [zz_st1] at h
  split at h
  · cases h
    exact lv_ifnull hx hb hdg (k ls hl)
  · next t g =>
    have ht := ht g rfl
    cases h
    exact lv_ifnullN hx hb hdg ht (k ls hl)
  · cases h
theorem zz_s1_ifnonnull {o : Int} (hx : p.tables.exec = Jvm.exec) (hb : c.code = cc) (hown : s.vm.findClass own = some m.cls) (hl : zz_lr ad ls nL L) (hdg : decode cc pc = .ok ((.ifnonnull o), n)) (hn : n = zz_len (.ifnonnull o)) (ht : zz_tg (.ifnonnull o) r pc) (h : zz_st1 (.ifnonnull o) r pc L st = some (pc', L', st')) (k : ∀ ls' : Array Slot, zz_lr ad ls' nL L' → W p l e R s m args below meth c H locs cells slots Q (F0 m pc' ls' (st'.map (zz_v ad)))) : W p l e R s m args below meth c H locs cells slots Q (F0 m pc ls (st.map (zz_v ad))) := by
  subst hn
  simp only [zz_st1] at h
  split at h
  · next x t g =>
    have ht := ht g rfl
    cases h
    exact lv_ifnonnull hx hb hdg ht (k ls hl)
  · cases h
    exact lv_ifnonnullN hx hb hdg (k ls hl)
  · cases h
theorem zz_s1_goto {o : Int} (hx : p.tables.exec = Jvm.exec) (hb : c.code = cc) (hown : s.vm.findClass own = some m.cls) (hl : zz_lr ad ls nL L) (hdg : decode cc pc = .ok ((.goto o), n)) (hn : n = zz_len (.goto o)) (ht : zz_tg (.goto o) r pc) (h : zz_st1 (.goto o) r pc L st = some (pc', L', st')) (k : ∀ ls' : Array Slot, zz_lr ad ls' nL L' → W p l e R s m args below meth c H locs cells slots Q (F0 m pc' ls' (st'.map (zz_v ad)))) : W p l e R s m args below meth c H locs cells slots Q (F0 m pc ls (st.map (zz_v ad))) := by
  subst hn
  simp only [zz_st1] at h
  split at h
  · next g =>
    have ht := ht g rfl
    cases h
    exact lv_goto hx hb hdg ht (k ls hl)
  · cases h
section ZZL
variable {b0 b : Nat} {sa : Nat → Nat}
theorem zz_s1_ldc {k0 : Nat} (hx : p.tables.exec = Jvm.exec) (hb : c.code = cc) (hown : s.vm.findClass own = some m.cls) (hck : zz_ck own (.ldc k0) r args s sa) (hl : zz_lr (zz_ad b0 sa b) ls nL L) (hdg : decode cc pc = .ok (.ldc k0, n)) (hn : n = zz_len (.ldc k0)) (h : zz_st1 (.ldc k0) r pc L st = some (pc', L', st')) (k : ∀ ls' : Array Slot, zz_lr (zz_ad b0 sa b) ls' nL L' → W p l e R s m args below meth c H locs cells slots Q (F0 m pc' ls' (st'.map (zz_v (zz_ad b0 sa b))))) : W p l e R s m args below meth c H locs cells slots Q (F0 m pc ls (st.map (zz_v (zz_ad b0 sa b)))) := by
  subst hn
  simp only [zz_st1] at h
  split at h
  · next v =>
    cases h
    exact lv_ldc hx hb hown (hck.1 v rfl) hdg (k ls hl)
  · next j =>
    cases h
    obtain ⟨tx, hR, hj⟩ := hck.2 j rfl
    refine va_ldcS hx hb hown hR hdg ?_
    have k1 := k ls hl
    rw [List.map_cons, show zz_v (zz_ad b0 sa b) (.ref (zz_SB + j)) = .ref (sa j) by show Value.ref (zz_ad b0 sa b (zz_SB + j)) = _; rw [zz_ad_str hj]] at k1
    exact k1
  · cases h
theorem zz_ldcwS (hx : p.tables.exec = Jvm.exec) (hb : c.code = cc) {tx : String} {index q : Nat} {rest : List Value} (hown : s.vm.findClass own = some m.cls) (hZ : vk_R own index tx q s) (hdg : decode cc pc = .ok (.ldc_w index, 3))
    (k : W p l e R s m args below meth c H locs cells slots Q (F0 m (pc + 3) ls (.ref q :: rest))) : W p l e R s m args below meth c H locs cells slots Q (F0 m pc ls rest) := by
  intro T hT X
  obtain ⟨t, a1, b1⟩ := k T hT X
  refine ⟨t, ?_, b1⟩
  obtain ⟨kk, cf, i, a', hk, hcf, hcp, -, hr, hev'⟩ := Cond.stringRef_spec hown hZ.1
  cases hZ.2.symm.trans hev'
  obtain ⟨k', hk', he⟩ := X.warmed.alike.2.2 _ _ hk
  have hr' : k'.resolved[index]? = some (some (.string q)) := by
    rcases X.warmed.entry hk hk' index with h | ⟨h, -⟩
    · rw [h]; exact hr
    · rw [hr] at h; cases h
  have hdg' : decode c.code pc = .ok (.ldc_w index, 3) := by rw [hb]; exact hdg
  jvm_step X.here [hx, hdg', ldc_w.wp_string (e := e) (s := T) (f := F0 m pc ls rest) X.here.top hk' (by rw [he]; exact hcf) hcp hr']
  exact a1
theorem zz_s1_ldc_w {k0 : Nat} (hx : p.tables.exec = Jvm.exec) (hb : c.code = cc) (hown : s.vm.findClass own = some m.cls) (hck : zz_ck own (.ldc_w k0) r args s sa) (hl : zz_lr (zz_ad b0 sa b) ls nL L) (hdg : decode cc pc = .ok (.ldc_w k0, n)) (hn : n = zz_len (.ldc_w k0)) (h : zz_st1 (.ldc_w k0) r pc L st = some (pc', L', st')) (k : ∀ ls' : Array Slot, zz_lr (zz_ad b0 sa b) ls' nL L' → W p l e R s m args below meth c H locs cells slots Q (F0 m pc' ls' (st'.map (zz_v (zz_ad b0 sa b))))) : W p l e R s m args below meth c H locs cells slots Q (F0 m pc ls (st.map (zz_v (zz_ad b0 sa b)))) := by
  subst hn
  simp only [zz_st1] at h
  split at h
  · next v =>
    cases h
    exact lv_ldcw hx hb hown (hck.1 v rfl) hdg (k ls hl)
  · next j =>
    cases h
    obtain ⟨tx, hR, hj⟩ := hck.2 j rfl
    refine zz_ldcwS hx hb hown hR hdg ?_
    have k1 := k ls hl
    rw [List.map_cons, show zz_v (zz_ad b0 sa b) (.ref (zz_SB + j)) = .ref (sa j) by show Value.ref (zz_ad b0 sa b (zz_SB + j)) = _; rw [zz_ad_str hj]] at k1
    exact k1
  · cases h
theorem zz_s1_ldc2_w {k0 : Nat} (hx : p.tables.exec = Jvm.exec) (hb : c.code = cc) (hown : s.vm.findClass own = some m.cls) (hck : zz_ck own (.ldc2_w k0) r args s sa) (hl : zz_lr ad ls nL L) (hdg : decode cc pc = .ok (.ldc2_w k0, n)) (hn : n = zz_len (.ldc2_w k0)) (h : zz_st1 (.ldc2_w k0) r pc L st = some (pc', L', st')) (k : ∀ ls' : Array Slot, zz_lr ad ls' nL L' → W p l e R s m args below meth c H locs cells slots Q (F0 m pc' ls' (st'.map (zz_v ad)))) : W p l e R s m args below meth c H locs cells slots Q (F0 m pc ls (st.map (zz_v ad))) := by
  subst hn
  simp only [zz_st1] at h
  split at h
  · next v =>
    cases h
    exact lv_ldc2 hx hb hown (hck v rfl) hdg (k ls hl)
  · cases h
end ZZL
theorem zz_s1_tableswitch {d0 lo hi : Int} {os : Array Int} (hx : p.tables.exec = Jvm.exec) (hb : c.code = cc) (hl : zz_lr ad ls nL L) (hdg : decode cc pc = .ok (.tableswitch d0 lo hi os, n)) (ht : zz_tg (.tableswitch d0 lo hi os) r pc) (h : zz_st1 (.tableswitch d0 lo hi os) r pc L st = some (pc', L', st')) (k : ∀ ls' : Array Slot, zz_lr ad ls' nL L' → W p l e R s m args below meth c H locs cells slots Q (F0 m pc' ls' (st'.map (zz_v ad)))) : W p l e R s m args below meth c H locs cells slots Q (F0 m pc ls (st.map (zz_v ad))) := by
  simp only [zz_st1] at h
  split at h
  · next x t =>
    obtain ⟨g, hg, e0⟩ := Option.map_eq_some_iff.mp h
    cases e0
    unfold zz_tab at hg
    split at hg
    · next hc => exact lv_tableOut hx hb hdg hc (ht.1 _ hg) (k ls hl)
    · next hc =>
      obtain ⟨o, ho, h2⟩ := ht.2 _ _ hg
      exact lv_tableIn hx hb hdg (fun z => hc (Or.inl z)) (fun z => hc (Or.inr z)) ho h2 (k ls hl)
  · cases h
end ZZ1

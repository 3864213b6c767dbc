/-! ===== from the abstract machine to the JVM ===== -/
def q_v (ad : Nat → Nat → Nat) (v : q_V) : Value := match v with
  | .inl x => .int x
  | .inr (.inl x) => .long x
  | .inr (.inr q) => .ref (ad q.1 q.2)
theorem q_v_cat (ad : Nat → Nat → Nat) (v : q_V) : (q_v ad v).category = q_cat v := by
  rcases v with x | x | x <;> rfl
def q_ls (ad : Nat → Nat → Nat) (ls : List (Nat × q_V)) : List (Nat × Value) := ls.map (fun q => (q.1, q_v ad q.2))
theorem q_get_mem : ∀ (ls : List (Nat × q_V)) (k : Nat) (v : q_V), q_get ls k = some v → (k, v) ∈ ls
  | [], _, _, h => by cases h
  | q :: l, k, v, h => by
    unfold q_get at h
    cases hb : Nat.beq q.1 k with
    | true =>
      rw [hb] at h
      have e1 := Nat.eq_of_beq_eq_true hb
      have e2 : q.2 = v := Option.some.inj h
      rw [← e1, ← e2]
      exact List.mem_cons_self
    | false =>
      rw [hb] at h
      exact List.mem_cons_of_mem _ (q_get_mem l k v h)
theorem q_get_at {ad : Nat → Nat → Nat} {LS : Array Slot} {nL : Nat} {ls : List (Nat × q_V)} {k : Nat} {v : q_V} (hl : lv_has LS nL (q_ls ad ls)) (h : q_get ls k = some v) : LS[k]? = some (.val (q_v ad v)) :=
  hl.2.2 (k, q_v ad v) (List.mem_map.mpr ⟨(k, v), q_get_mem _ _ _ h, rfl⟩)
theorem q_ls_set (ad : Nat → Nat → Nat) (ls : List (Nat × q_V)) (i : Nat) (v : q_V) : (i, q_v ad v) :: (q_ls ad ls).filter (fun q => !(q.1 == i) && !(q.1 + 1 == i && q.2.category == 2)) = q_ls ad (q_set ls i v) := by
  unfold q_ls q_set
  rw [List.map_cons, List.filter_map]
  congr 2
  apply List.filter_congr
  intro x _
  simp only [Function.comp, q_v_cat]
theorem q_ls_set2 (ad : Nat → Nat → Nat) (ls : List (Nat × q_V)) (i : Nat) (v : q_V) : (i, q_v ad v) :: (q_ls ad ls).filter (fun q => !(q.1 == i) && (!(q.1 == i + 1) && !(q.1 + 1 == i && q.2.category == 2))) = q_ls ad (q_set2 ls i v) := by
  unfold q_ls q_set2
  rw [List.map_cons, List.filter_map]
  congr 2
  apply List.filter_congr
  intro x _
  simp only [Function.comp, q_v_cat]
theorem q_args_ls (ad : Nat → Nat → Nat) : ∀ (vs : List q_V) (i : Nat), lv_args i (vs.map (q_v ad)) = q_ls ad (q_args i vs)
  | [], _ => rfl
  | v :: vs, i => by
    show (i, q_v ad v) :: lv_args (if (q_v ad v).category = 2 then i + 2 else i + 1) (vs.map (q_v ad)) = (i, q_v ad v) :: q_ls ad (q_args (if q_cat v = 2 then i + 2 else i + 1) vs)
    rw [q_v_cat, q_args_ls ad vs]
theorem q_size_sl (ad : Nat → Nat → Nat) : ∀ (vs : List q_V), (lg_sl (vs.map (q_v ad))).length = q_size vs
  | [] => rfl
  | v :: vs => by
    have h1 : lg_sl ((v :: vs).map (q_v ad)) = (if (q_v ad v).category = 2 then [.val (q_v ad v), .second] else [.val (q_v ad v)]) ++ lg_sl (vs.map (q_v ad)) := rfl
    have h2 : q_size (v :: vs) = q_cat v + q_size vs := rfl
    rw [h1, List.length_append, q_size_sl ad vs, h2, q_v_cat]
    rcases v with x | x | x <;> rfl
theorem q_size_cat (ad : Nat → Nat → Nat) (vs : List q_V) : ((vs.map (q_v ad)).map fun v => v.category).sum = q_size vs := by
  unfold q_size
  rw [List.map_map]
  congr 1
  apply List.map_congr_left
  intro x _
  exact q_v_cat ad x
-- the world
def q_fv (ad : Nat → Nat → Nat) (h : q_H) (k i ci j : Nat) : Value := match q_ft ci j with
  | 0 => .int (h.1 k i j)
  | 1 => .long (h.2 k i j)
  | _ => .ref (ad (q_rf k i j).1 (q_rf k i j).2)
def q_E (ad : Nat → Nat → Nat) (CA : Nat → ClassId) (h : q_H) (k i : Nat) : va_E := match q_kc k with
  | some ci => .inr (ci, (List.range (q_nf ci)).map (q_fv ad h k i ci))
  | none => match q_at k with
    | 1 => .inl (CA 0, q_len k i, .inl (h.1 k i))
    | 2 => .inl (CA 1, q_len k i, .inr (.inl (h.2 k i)))
    | 3 => .inl (CA 2, q_len k i, .inl (h.1 k i))
    | _ => .inl (CA 3, q_len k i, .inr (.inr (.inr (.inr (fun j => some (ad (q_rf k i j).1 (q_rf k i j).2))))))
def q_cells : List (Nat × Nat) := (List.range 28).flatMap (fun k => (List.range (q_cnt k)).map (fun i => (k, i)))
def q_wl (ad : Nat → Nat → Nat) (CA : Nat → ClassId) (h : q_H) : va_W := q_cells.map (fun q => (ad q.1 q.2, q_E ad CA h q.1 q.2))
def q_tys (CA : Nat → ClassId) : List (ClassId × FieldType) := [(CA 0, .int), (CA 1, .long), (CA 2, .boolean), (CA 3, .object "SleepKeeper$Part")]
def q_A (ad : Nat → Nat → Nat) : Nat → Prop := fun a => ∃ q ∈ q_cells, a = ad q.1 q.2
def q_ok (ad : Nat → Nat → Nat) : Prop := ∀ p ∈ q_cells, ∀ q ∈ q_cells, ad p.1 p.2 = ad q.1 q.2 → p = q
theorem q_cnt_lt {k i : Nat} (h : i < q_cnt k) : k < 28 := by
  rcases Nat.lt_or_ge k 28 with hk | hk
  · exact hk
  · have : q_cnt k = 0 := by
      unfold q_cnt
      rw [List.getD_eq_getElem?_getD, List.getElem?_eq_none hk]
      rfl
    omega
theorem q_mem {k i : Nat} (h : i < q_cnt k) : (k, i) ∈ q_cells := List.mem_flatMap.mpr ⟨k, List.mem_range.mpr (q_cnt_lt h), List.mem_map.mpr ⟨i, List.mem_range.mpr h, rfl⟩⟩
theorem q_place {k i : Nat} (h : i < q_cnt k) : ∃ q0 : Nat, q_cells[q0]? = some (k, i) := List.getElem?_of_mem (q_mem h)
theorem q_nd : ∀ i, i < 60 → ∀ j, j < 60 → q_cells[i]? = q_cells[j]? → i = j := by decide +kernel
theorem q_cells_len : q_cells.length = 60 := by decide +kernel
theorem q_nd' {i j : Nat} {x : Nat × Nat} (hi : q_cells[i]? = some x) (hj : q_cells[j]? = some x) : i = j := by
  have h1 := (List.getElem?_eq_some_iff.mp hi).1
  have h2 := (List.getElem?_eq_some_iff.mp hj).1
  rw [q_cells_len] at h1 h2
  exact q_nd i h1 j h2 (hi.trans hj.symm)
theorem q_wl_at {ad : Nat → Nat → Nat} {CA : Nat → ClassId} {h : q_H} {q0 k i : Nat} (hq : q_cells[q0]? = some (k, i)) : (q_wl ad CA h)[q0]? = some (ad k i, q_E ad CA h k i) := by
  unfold q_wl
  rw [List.getElem?_map, hq]
  rfl
theorem q_wl_of {ad : Nat → Nat → Nat} {CA : Nat → ClassId} {h : q_H} {q0 : Nat} {x : Nat × va_E} (hq : (q_wl ad CA h)[q0]? = some x) : ∃ y : Nat × Nat, q_cells[q0]? = some y ∧ x = (ad y.1 y.2, q_E ad CA h y.1 y.2) := by
  unfold q_wl at hq
  rw [List.getElem?_map] at hq
  cases hc : q_cells[q0]? with
  | none => rw [hc] at hq; cases hq
  | some y => rw [hc] at hq; exact ⟨y, rfl, (Option.some.inj hq).symm⟩
theorem q_wl_D {ad : Nat → Nat → Nat} {CA : Nat → ClassId} {h : q_H} {A : Nat → Prop} (hok : q_ok ad) (hA : ∀ a, q_A ad a → A a) : va_D A (q_wl ad CA h) := by
  refine ⟨fun i j p q hi hj he => ?_, fun k q hk => ?_⟩
  · obtain ⟨y, hy, rfl⟩ := q_wl_of hi
    obtain ⟨z, hz, rfl⟩ := q_wl_of hj
    have := hok y (List.mem_of_getElem? hy) z (List.mem_of_getElem? hz) he
    subst this
    exact q_nd' hy hz
  · obtain ⟨y, hy, rfl⟩ := q_wl_of hk
    exact hA _ ⟨y, List.mem_of_getElem? hy, rfl⟩
theorem q_E_congr {ad : Nat → Nat → Nat} {CA : Nat → ClassId} {h h1 : q_H} {k i : Nat} (e1 : h1.1 k i = h.1 k i) (e2 : h1.2 k i = h.2 k i) : q_E ad CA h1 k i = q_E ad CA h k i := by
  have : q_fv ad h1 k i = q_fv ad h k i := by
    funext ci j
    unfold q_fv
    rw [e1, e2]
  unfold q_E
  rw [this, e1, e2]
theorem q_wl_set {ad : Nat → Nat → Nat} {CA : Nat → ClassId} {h h1 : q_H} {q0 k i : Nat} {e : va_E} (hq : q_cells[q0]? = some (k, i)) (hE : q_E ad CA h1 k i = e) (ho : ∀ k1 i1, ¬ (k1 = k ∧ i1 = i) → h1.1 k1 i1 = h.1 k1 i1 ∧ h1.2 k1 i1 = h.2 k1 i1) : (q_wl ad CA h).set q0 (ad k i, e) = q_wl ad CA h1 := by
  apply List.ext_getElem?
  intro n
  rw [List.getElem?_set]
  by_cases hn : q0 = n
  · subst hn
    have hl : q0 < (q_wl ad CA h).length := (List.getElem?_eq_some_iff.mp (q_wl_at (ad := ad) (CA := CA) (h := h) hq)).1
    rw [if_pos rfl, if_pos hl, q_wl_at hq, hE]
  · rw [if_neg hn]
    unfold q_wl
    rw [List.getElem?_map, List.getElem?_map]
    cases hc : q_cells[n]? with
    | none => rfl
    | some y =>
      have hne : ¬ (y.1 = k ∧ y.2 = i) := fun ⟨a, b⟩ => hn (q_nd' (x := (k, i)) hq (by rw [hc, ← a, ← b]))
      obtain ⟨a, b⟩ := ho _ _ hne
      exact congrArg (fun z => some (ad y.1 y.2, z)) (q_E_congr a b).symm
theorem q_sI_ne {h : q_H} {k i j : Nat} {v : Int32} (k1 i1 : Nat) (hn : ¬ (k1 = k ∧ i1 = i)) : (q_sI h k i j v).1 k1 i1 = h.1 k1 i1 ∧ (q_sI h k i j v).2 k1 i1 = h.2 k1 i1 := by
  refine ⟨?_, rfl⟩
  funext j1
  exact if_neg (fun q => hn ⟨q.1, q.2.1⟩)
theorem q_sL_ne {h : q_H} {k i j : Nat} {v : Int64} (k1 i1 : Nat) (hn : ¬ (k1 = k ∧ i1 = i)) : (q_sL h k i j v).1 k1 i1 = h.1 k1 i1 ∧ (q_sL h k i j v).2 k1 i1 = h.2 k1 i1 := by
  refine ⟨rfl, ?_⟩
  funext j1
  exact if_neg (fun q => hn ⟨q.1, q.2.1⟩)
theorem q_sI_at (h : q_H) (k i j : Nat) (v : Int32) : (q_sI h k i j v).1 k i = upd (h.1 k i) j v := by
  funext j1
  unfold q_sI upd
  by_cases e : j1 = j
  · simp [e]
  · simp [e]
theorem q_sL_at (h : q_H) (k i j : Nat) (v : Int64) : (q_sL h k i j v).2 k i = vp_updL (h.2 k i) j v := by
  funext j1
  unfold q_sL vp_updL
  by_cases e : j1 = j
  · simp [e]
  · simp [e]
theorem q_E_obj {ad : Nat → Nat → Nat} {CA : Nat → ClassId} {h : q_H} {k i ci : Nat} (hc : q_kc k = some ci) : q_E ad CA h k i = .inr (ci, (List.range (q_nf ci)).map (q_fv ad h k i ci)) := by
  unfold q_E
  rw [hc]
theorem q_E_arr {ad : Nat → Nat → Nat} {CA : Nat → ClassId} {h : q_H} {k i : Nat} (hc : q_kc k = none) : q_E ad CA h k i = (match q_at k with
    | 1 => .inl (CA 0, q_len k i, .inl (h.1 k i))
    | 2 => .inl (CA 1, q_len k i, .inr (.inl (h.2 k i)))
    | 3 => .inl (CA 2, q_len k i, .inl (h.1 k i))
    | _ => .inl (CA 3, q_len k i, .inr (.inr (.inr (.inr (fun j => some (ad (q_rf k i j).1 (q_rf k i j).2))))))) := by
  unfold q_E
  rw [hc]
theorem q_E_1 {ad : Nat → Nat → Nat} {CA : Nat → ClassId} {h : q_H} {k i : Nat} (hc : q_kc k = none) (ha : q_at k = 1) : q_E ad CA h k i = .inl (CA 0, q_len k i, .inl (h.1 k i)) := by rw [q_E_arr hc, ha]; rfl
theorem q_E_2 {ad : Nat → Nat → Nat} {CA : Nat → ClassId} {h : q_H} {k i : Nat} (hc : q_kc k = none) (ha : q_at k = 2) : q_E ad CA h k i = .inl (CA 1, q_len k i, .inr (.inl (h.2 k i))) := by rw [q_E_arr hc, ha]; rfl
theorem q_E_3 {ad : Nat → Nat → Nat} {CA : Nat → ClassId} {h : q_H} {k i : Nat} (hc : q_kc k = none) (ha : q_at k = 3) : q_E ad CA h k i = .inl (CA 2, q_len k i, .inl (h.1 k i)) := by rw [q_E_arr hc, ha]; rfl
theorem q_E_4 {ad : Nat → Nat → Nat} {CA : Nat → ClassId} {h : q_H} {k i : Nat} (hc : q_kc k = none) (ha : q_at k = 4) : q_E ad CA h k i = .inl (CA 3, q_len k i, .inr (.inr (.inr (.inr (fun j => some (ad (q_rf k i j).1 (q_rf k i j).2)))))) := by rw [q_E_arr hc, ha]; rfl
theorem q_fs_set {n j : Nat} {f g : Nat → Value} {v : Value} (hj : g j = v) (ho : ∀ x, x ≠ j → g x = f x) : ((List.range n).map f).set j v = (List.range n).map g := by
  apply List.ext_getElem?
  intro x
  rw [List.getElem?_set]
  by_cases hx : j = x
  · subst hx
    rw [if_pos rfl]
    by_cases hl : j < n
    · simp [hl, hj]
    · simp [hl]
  · rw [if_neg hx]
    simp only [List.getElem?_map]
    by_cases hl : x < n
    · simp [List.getElem?_range hl, ho x (fun q => hx q.symm)]
    · simp [List.getElem?_eq_none (show (List.range n).length ≤ x by rw [List.length_range]; omega)]
theorem q_fs_at {n j : Nat} {f : Nat → Value} (h : j < n) : ((List.range n).map f)[j]? = some (f j) := by
  rw [List.getElem?_map, List.getElem?_range h]
  rfl
/-- what a fixed frame knows -/
def q_Ctx (p : Program) (R : Room) (s : State) (m : MethodId) (args : Array Value) (c : Code) (cc : ByteArray) (tab : Nat → Option (Instr × Nat)) (oc nL : Nat) (sc : Option (Nat × (Nat → Int32))) (cells slots : Nat) (ad : Nat → Nat → Nat) (CA : Nat → ClassId) (D : va_G) (A0 : Nat → Prop) : Prop :=
  p.tables.exec = Jvm.exec ∧ c.code = cc ∧ c.maxLocals = nL ∧ s.vm.findClass (q_cN oc) = some m.cls ∧ (∀ w ∈ q_gw, w.before args s = true) ∧ va_K D q_classes (q_tys CA) s ∧ (∀ (pc : Nat) (r : Instr × Nat), tab pc = some r → decode cc pc = .ok r) ∧ q_ok ad ∧ (∀ a, q_A ad a → A0 a) ∧
  (∀ (L : Nat) (xs : Nat → Int32), sc = some (L, xs) → va_X (ad 28 0) L xs s s.heap ∧ ad 28 0 < s.heap.size ∧ ¬ A0 (ad 28 0)) ∧ (∀ w ∈ q_nest, va_Nw w s) ∧ (1 ≤ R.frames ∧ 21 ≤ R.locals ∧ cells ≤ R.cells ∧ slots ≤ R.slots)
def q_X (p : Program) (l : Launch) (e : Env) (R : Room) (s : State) (m : MethodId) (args : Array Value) (below : List Frame) (meth : Method) (c : Code) (nL : Nat) (cells slots : Nat) (QQ : State → Prop) (ad : Nat → Nat → Nat) (CA : Nat → ClassId) (D : va_G) (A0 : Nat → Prop) : Nat → List (Nat × q_V) → List q_V → q_H → Prop :=
  fun pc ls st h => ∀ (H : Heap) (locs : List Loc) (LS : Array Slot), va_P D q_classes (q_wl ad CA h) H → va_S A0 s.heap H locs → lv_has LS nL (q_ls ad ls) → W p l e R s m args below meth c H locs cells slots QQ (F0 m pc LS (st.map (q_v ad)))
section QS
variable {p : Program} {l : Launch} {e : Env} {R : Room} {s : State} {m : MethodId} {args : Array Value} {below : List Frame} {meth : Method} {c : Code} {cc : ByteArray} {tab : Nat → Option (Instr × Nat)} {oc nL : Nat} {sc : Option (Nat × (Nat → Int32))} {cells slots : Nat} {QQ : State → Prop} {ad : Nat → Nat → Nat} {CA : Nat → ClassId} {D : va_G} {A0 : Nat → Prop}
theorem q_s_iconst (C : q_Ctx p R s m args c cc tab oc nL sc cells slots ad CA D A0) : q_c_iconst tab (q_X p l e R s m args below meth c nL cells slots QQ ad CA D A0) := by
  obtain ⟨hx, hb, hml, hown, hts, hK, hd, hok, hA, hsc, hnw, hR1, hR2, hR3, hR4⟩ := C
  intro pc ls st h n v p0 p1 k0 H locs LS hP hS hl
  exact lv_iconst hx hb (hd _ _ p0) p1 (k0 H locs LS hP hS hl)
theorem q_s_bipush (C : q_Ctx p R s m args c cc tab oc nL sc cells slots ad CA D A0) : q_c_bipush tab (q_X p l e R s m args below meth c nL cells slots QQ ad CA D A0) := by
  obtain ⟨hx, hb, hml, hown, hts, hK, hd, hok, hA, hsc, hnw, hR1, hR2, hR3, hR4⟩ := C
  intro pc ls st h n v p0 p1 k0 H locs LS hP hS hl
  exact lv_bipush hx hb (hd _ _ p0) p1 (k0 H locs LS hP hS hl)
theorem q_s_sipush (C : q_Ctx p R s m args c cc tab oc nL sc cells slots ad CA D A0) : q_c_sipush tab (q_X p l e R s m args below meth c nL cells slots QQ ad CA D A0) := by
  obtain ⟨hx, hb, hml, hown, hts, hK, hd, hok, hA, hsc, hnw, hR1, hR2, hR3, hR4⟩ := C
  intro pc ls st h n v p0 p1 k0 H locs LS hP hS hl
  exact lv_sipush hx hb (hd _ _ p0) p1 (k0 H locs LS hP hS hl)
theorem q_s_lconst (C : q_Ctx p R s m args c cc tab oc nL sc cells slots ad CA D A0) : q_c_lconst tab (q_X p l e R s m args below meth c nL cells slots QQ ad CA D A0) := by
  obtain ⟨hx, hb, hml, hown, hts, hK, hd, hok, hA, hsc, hnw, hR1, hR2, hR3, hR4⟩ := C
  intro pc ls st h n v p0 p1 k0 H locs LS hP hS hl
  exact lv_lconst hx hb (hd _ _ p0) p1 (k0 H locs LS hP hS hl)
theorem q_s_ldc (C : q_Ctx p R s m args c cc tab oc nL sc cells slots ad CA D A0) : q_c_ldc tab oc (q_X p l e R s m args below meth c nL cells slots QQ ad CA D A0) := by
  obtain ⟨hx, hb, hml, hown, hts, hK, hd, hok, hA, hsc, hnw, hR1, hR2, hR3, hR4⟩ := C
  intro pc ls st h i v p0 p1 k0 H locs LS hP hS hl
  exact lv_ldc hx hb hown (hts _ (q_in_gw _ q_cst_w q_cst_g _ (List.mem_map.mpr ⟨_, q_look_mem _ _ _ _ p1, rfl⟩))) (hd _ _ p0) (k0 H locs LS hP hS hl)
theorem q_s_ldc2 (C : q_Ctx p R s m args c cc tab oc nL sc cells slots ad CA D A0) : q_c_ldc2 tab oc (q_X p l e R s m args below meth c nL cells slots QQ ad CA D A0) := by
  obtain ⟨hx, hb, hml, hown, hts, hK, hd, hok, hA, hsc, hnw, hR1, hR2, hR3, hR4⟩ := C
  intro pc ls st h i v p0 p1 k0 H locs LS hP hS hl
  exact lv_ldc2 hx hb hown (hts _ (q_in_gw _ q_cstL_w q_cstL_g _ (List.mem_map.mpr ⟨_, q_look_mem _ _ _ _ p1, rfl⟩))) (hd _ _ p0) (k0 H locs LS hP hS hl)
theorem q_s_iload_n (C : q_Ctx p R s m args c cc tab oc nL sc cells slots ad CA D A0) : q_c_iload_n tab (q_X p l e R s m args below meth c nL cells slots QQ ad CA D A0) := by
  obtain ⟨hx, hb, hml, hown, hts, hK, hd, hok, hA, hsc, hnw, hR1, hR2, hR3, hR4⟩ := C
  intro pc ls st h k x p0 p1 k0 H locs LS hP hS hl
  exact lv_iload_n hx hb (hd _ _ p0) rfl (q_get_at hl p1) (k0 H locs LS hP hS hl)
theorem q_s_iload (C : q_Ctx p R s m args c cc tab oc nL sc cells slots ad CA D A0) : q_c_iload tab (q_X p l e R s m args below meth c nL cells slots QQ ad CA D A0) := by
  obtain ⟨hx, hb, hml, hown, hts, hK, hd, hok, hA, hsc, hnw, hR1, hR2, hR3, hR4⟩ := C
  intro pc ls st h k x p0 p1 k0 H locs LS hP hS hl
  exact lv_iload hx hb (hd _ _ p0) (q_get_at hl p1) (k0 H locs LS hP hS hl)
theorem q_s_lload_n (C : q_Ctx p R s m args c cc tab oc nL sc cells slots ad CA D A0) : q_c_lload_n tab (q_X p l e R s m args below meth c nL cells slots QQ ad CA D A0) := by
  obtain ⟨hx, hb, hml, hown, hts, hK, hd, hok, hA, hsc, hnw, hR1, hR2, hR3, hR4⟩ := C
  intro pc ls st h k x p0 p1 k0 H locs LS hP hS hl
  exact lv_lload_n hx hb (hd _ _ p0) rfl (q_get_at hl p1) (k0 H locs LS hP hS hl)
theorem q_s_lload (C : q_Ctx p R s m args c cc tab oc nL sc cells slots ad CA D A0) : q_c_lload tab (q_X p l e R s m args below meth c nL cells slots QQ ad CA D A0) := by
  obtain ⟨hx, hb, hml, hown, hts, hK, hd, hok, hA, hsc, hnw, hR1, hR2, hR3, hR4⟩ := C
  intro pc ls st h k x p0 p1 k0 H locs LS hP hS hl
  exact lv_lload hx hb (hd _ _ p0) (q_get_at hl p1) (k0 H locs LS hP hS hl)
theorem q_s_aload_n (C : q_Ctx p R s m args c cc tab oc nL sc cells slots ad CA D A0) : q_c_aload_n tab (q_X p l e R s m args below meth c nL cells slots QQ ad CA D A0) := by
  obtain ⟨hx, hb, hml, hown, hts, hK, hd, hok, hA, hsc, hnw, hR1, hR2, hR3, hR4⟩ := C
  intro pc ls st h k a b p0 p1 k0 H locs LS hP hS hl
  exact lv_aload_n hx hb (hd _ _ p0) rfl (q_get_at hl p1) (k0 H locs LS hP hS hl)
theorem q_s_istore_n (C : q_Ctx p R s m args c cc tab oc nL sc cells slots ad CA D A0) : q_c_istore_n tab nL (q_X p l e R s m args below meth c nL cells slots QQ ad CA D A0) := by
  obtain ⟨hx, hb, hml, hown, hts, hK, hd, hok, hA, hsc, hnw, hR1, hR2, hR3, hR4⟩ := C
  intro pc ls ls1 st h k x p0 p1 p2 k0 H locs LS hP hS hl
  exact lv_istore_n hx hb (hd _ _ p0) rfl hl p1 (q_ls_set ad ls _ (q_i x)) (fun LS1 hl1 => k0 H locs LS1 hP hS (p2 ▸ hl1))
theorem q_s_istore (C : q_Ctx p R s m args c cc tab oc nL sc cells slots ad CA D A0) : q_c_istore tab nL (q_X p l e R s m args below meth c nL cells slots QQ ad CA D A0) := by
  obtain ⟨hx, hb, hml, hown, hts, hK, hd, hok, hA, hsc, hnw, hR1, hR2, hR3, hR4⟩ := C
  intro pc ls ls1 st h k x p0 p1 p2 k0 H locs LS hP hS hl
  exact lv_istore hx hb (hd _ _ p0) hl p1 (q_ls_set ad ls _ (q_i x)) (fun LS1 hl1 => k0 H locs LS1 hP hS (p2 ▸ hl1))
theorem q_s_lstore_n (C : q_Ctx p R s m args c cc tab oc nL sc cells slots ad CA D A0) : q_c_lstore_n tab nL (q_X p l e R s m args below meth c nL cells slots QQ ad CA D A0) := by
  obtain ⟨hx, hb, hml, hown, hts, hK, hd, hok, hA, hsc, hnw, hR1, hR2, hR3, hR4⟩ := C
  intro pc ls ls1 st h k x p0 p1 p2 k0 H locs LS hP hS hl
  exact lv_lstore_n hx hb (hd _ _ p0) rfl hl p1 (q_ls_set2 ad ls _ (q_l x)) (fun LS1 hl1 => k0 H locs LS1 hP hS (p2 ▸ hl1))
theorem q_s_lstore (C : q_Ctx p R s m args c cc tab oc nL sc cells slots ad CA D A0) : q_c_lstore tab nL (q_X p l e R s m args below meth c nL cells slots QQ ad CA D A0) := by
  obtain ⟨hx, hb, hml, hown, hts, hK, hd, hok, hA, hsc, hnw, hR1, hR2, hR3, hR4⟩ := C
  intro pc ls ls1 st h k x p0 p1 p2 k0 H locs LS hP hS hl
  exact lv_lstore hx hb (hd _ _ p0) hl p1 (q_ls_set2 ad ls _ (q_l x)) (fun LS1 hl1 => k0 H locs LS1 hP hS (p2 ▸ hl1))
theorem q_s_iinc (C : q_Ctx p R s m args c cc tab oc nL sc cells slots ad CA D A0) : q_c_iinc tab nL (q_X p l e R s m args below meth c nL cells slots QQ ad CA D A0) := by
  obtain ⟨hx, hb, hml, hown, hts, hK, hd, hok, hA, hsc, hnw, hR1, hR2, hR3, hR4⟩ := C
  intro pc ls ls1 st h k n x v p0 p1 p2 p3 p4 k0 H locs LS hP hS hl
  obtain ⟨kk, hkk⟩ := List.getElem?_of_mem (List.mem_map.mpr ⟨(k, q_i x), q_get_mem _ _ _ p2, rfl⟩ : (k, Value.int x) ∈ q_ls ad ls)
  exact lv_iinc (k := kk) hx hb (hd _ _ p0) hl hkk p3 p1 (q_ls_set ad ls _ (q_i v)) (fun LS1 hl1 => k0 H locs LS1 hP hS (p4 ▸ hl1))
theorem q_s_iadd (C : q_Ctx p R s m args c cc tab oc nL sc cells slots ad CA D A0) : q_c_iadd tab (q_X p l e R s m args below meth c nL cells slots QQ ad CA D A0) := by
  obtain ⟨hx, hb, hml, hown, hts, hK, hd, hok, hA, hsc, hnw, hR1, hR2, hR3, hR4⟩ := C
  intro pc ls st h x y p0 k0 H locs LS hP hS hl
  exact lv_iadd hx hb (hd _ _ p0) (k0 H locs LS hP hS hl)
theorem q_s_isub (C : q_Ctx p R s m args c cc tab oc nL sc cells slots ad CA D A0) : q_c_isub tab (q_X p l e R s m args below meth c nL cells slots QQ ad CA D A0) := by
  obtain ⟨hx, hb, hml, hown, hts, hK, hd, hok, hA, hsc, hnw, hR1, hR2, hR3, hR4⟩ := C
  intro pc ls st h x y p0 k0 H locs LS hP hS hl
  exact lv_isub hx hb (hd _ _ p0) (k0 H locs LS hP hS hl)
theorem q_s_imul (C : q_Ctx p R s m args c cc tab oc nL sc cells slots ad CA D A0) : q_c_imul tab (q_X p l e R s m args below meth c nL cells slots QQ ad CA D A0) := by
  obtain ⟨hx, hb, hml, hown, hts, hK, hd, hok, hA, hsc, hnw, hR1, hR2, hR3, hR4⟩ := C
  intro pc ls st h x y p0 k0 H locs LS hP hS hl
  exact lv_imul hx hb (hd _ _ p0) (k0 H locs LS hP hS hl)
theorem q_s_iand (C : q_Ctx p R s m args c cc tab oc nL sc cells slots ad CA D A0) : q_c_iand tab (q_X p l e R s m args below meth c nL cells slots QQ ad CA D A0) := by
  obtain ⟨hx, hb, hml, hown, hts, hK, hd, hok, hA, hsc, hnw, hR1, hR2, hR3, hR4⟩ := C
  intro pc ls st h x y p0 k0 H locs LS hP hS hl
  exact lv_iand hx hb (hd _ _ p0) (k0 H locs LS hP hS hl)
theorem q_s_ior (C : q_Ctx p R s m args c cc tab oc nL sc cells slots ad CA D A0) : q_c_ior tab (q_X p l e R s m args below meth c nL cells slots QQ ad CA D A0) := by
  obtain ⟨hx, hb, hml, hown, hts, hK, hd, hok, hA, hsc, hnw, hR1, hR2, hR3, hR4⟩ := C
  intro pc ls st h x y p0 k0 H locs LS hP hS hl
  exact lv_ior hx hb (hd _ _ p0) (k0 H locs LS hP hS hl)
theorem q_s_ixor (C : q_Ctx p R s m args c cc tab oc nL sc cells slots ad CA D A0) : q_c_ixor tab (q_X p l e R s m args below meth c nL cells slots QQ ad CA D A0) := by
  obtain ⟨hx, hb, hml, hown, hts, hK, hd, hok, hA, hsc, hnw, hR1, hR2, hR3, hR4⟩ := C
  intro pc ls st h x y p0 k0 H locs LS hP hS hl
  exact lv_ixor hx hb (hd _ _ p0) (k0 H locs LS hP hS hl)
theorem q_s_ishl (C : q_Ctx p R s m args c cc tab oc nL sc cells slots ad CA D A0) : q_c_ishl tab (q_X p l e R s m args below meth c nL cells slots QQ ad CA D A0) := by
  obtain ⟨hx, hb, hml, hown, hts, hK, hd, hok, hA, hsc, hnw, hR1, hR2, hR3, hR4⟩ := C
  intro pc ls st h x y p0 k0 H locs LS hP hS hl
  exact lv_ishl hx hb (hd _ _ p0) (k0 H locs LS hP hS hl)
theorem q_s_ishr (C : q_Ctx p R s m args c cc tab oc nL sc cells slots ad CA D A0) : q_c_ishr tab (q_X p l e R s m args below meth c nL cells slots QQ ad CA D A0) := by
  obtain ⟨hx, hb, hml, hown, hts, hK, hd, hok, hA, hsc, hnw, hR1, hR2, hR3, hR4⟩ := C
  intro pc ls st h x y p0 k0 H locs LS hP hS hl
  exact lv_ishr hx hb (hd _ _ p0) (k0 H locs LS hP hS hl)
theorem q_s_idiv (C : q_Ctx p R s m args c cc tab oc nL sc cells slots ad CA D A0) : q_c_idiv tab (q_X p l e R s m args below meth c nL cells slots QQ ad CA D A0) := by
  obtain ⟨hx, hb, hml, hown, hts, hK, hd, hok, hA, hsc, hnw, hR1, hR2, hR3, hR4⟩ := C
  intro pc ls st h x y p0 p1 k0 H locs LS hP hS hl
  exact lv_idiv hx hb (hd _ _ p0) p1 (k0 H locs LS hP hS hl)
theorem q_s_iushr (C : q_Ctx p R s m args c cc tab oc nL sc cells slots ad CA D A0) : q_c_iushr tab (q_X p l e R s m args below meth c nL cells slots QQ ad CA D A0) := by
  obtain ⟨hx, hb, hml, hown, hts, hK, hd, hok, hA, hsc, hnw, hR1, hR2, hR3, hR4⟩ := C
  intro pc ls st h x y p0 k0 H locs LS hP hS hl
  exact lv_iushr hx hb (hd _ _ p0) rfl (k0 H locs LS hP hS hl)
theorem q_s_ladd (C : q_Ctx p R s m args c cc tab oc nL sc cells slots ad CA D A0) : q_c_ladd tab (q_X p l e R s m args below meth c nL cells slots QQ ad CA D A0) := by
  obtain ⟨hx, hb, hml, hown, hts, hK, hd, hok, hA, hsc, hnw, hR1, hR2, hR3, hR4⟩ := C
  intro pc ls st h x y p0 k0 H locs LS hP hS hl
  exact lv_ladd hx hb (hd _ _ p0) (k0 H locs LS hP hS hl)
theorem q_s_lsub (C : q_Ctx p R s m args c cc tab oc nL sc cells slots ad CA D A0) : q_c_lsub tab (q_X p l e R s m args below meth c nL cells slots QQ ad CA D A0) := by
  obtain ⟨hx, hb, hml, hown, hts, hK, hd, hok, hA, hsc, hnw, hR1, hR2, hR3, hR4⟩ := C
  intro pc ls st h x y p0 k0 H locs LS hP hS hl
  exact lv_lsub hx hb (hd _ _ p0) (k0 H locs LS hP hS hl)
theorem q_s_land (C : q_Ctx p R s m args c cc tab oc nL sc cells slots ad CA D A0) : q_c_land tab (q_X p l e R s m args below meth c nL cells slots QQ ad CA D A0) := by
  obtain ⟨hx, hb, hml, hown, hts, hK, hd, hok, hA, hsc, hnw, hR1, hR2, hR3, hR4⟩ := C
  intro pc ls st h x y p0 k0 H locs LS hP hS hl
  exact lv_land hx hb (hd _ _ p0) (k0 H locs LS hP hS hl)
theorem q_s_lor (C : q_Ctx p R s m args c cc tab oc nL sc cells slots ad CA D A0) : q_c_lor tab (q_X p l e R s m args below meth c nL cells slots QQ ad CA D A0) := by
  obtain ⟨hx, hb, hml, hown, hts, hK, hd, hok, hA, hsc, hnw, hR1, hR2, hR3, hR4⟩ := C
  intro pc ls st h x y p0 k0 H locs LS hP hS hl
  exact lv_lor hx hb (hd _ _ p0) (k0 H locs LS hP hS hl)
theorem q_s_lxor (C : q_Ctx p R s m args c cc tab oc nL sc cells slots ad CA D A0) : q_c_lxor tab (q_X p l e R s m args below meth c nL cells slots QQ ad CA D A0) := by
  obtain ⟨hx, hb, hml, hown, hts, hK, hd, hok, hA, hsc, hnw, hR1, hR2, hR3, hR4⟩ := C
  intro pc ls st h x y p0 k0 H locs LS hP hS hl
  exact lv_lxor hx hb (hd _ _ p0) (k0 H locs LS hP hS hl)
theorem q_s_lshl (C : q_Ctx p R s m args c cc tab oc nL sc cells slots ad CA D A0) : q_c_lshl tab (q_X p l e R s m args below meth c nL cells slots QQ ad CA D A0) := by
  obtain ⟨hx, hb, hml, hown, hts, hK, hd, hok, hA, hsc, hnw, hR1, hR2, hR3, hR4⟩ := C
  intro pc ls st h x y p0 k0 H locs LS hP hS hl
  exact lv_lshl hx hb (hd _ _ p0) rfl (k0 H locs LS hP hS hl)
theorem q_s_lushr (C : q_Ctx p R s m args c cc tab oc nL sc cells slots ad CA D A0) : q_c_lushr tab (q_X p l e R s m args below meth c nL cells slots QQ ad CA D A0) := by
  obtain ⟨hx, hb, hml, hown, hts, hK, hd, hok, hA, hsc, hnw, hR1, hR2, hR3, hR4⟩ := C
  intro pc ls st h x y p0 k0 H locs LS hP hS hl
  exact lv_lushr hx hb (hd _ _ p0) rfl (k0 H locs LS hP hS hl)
theorem q_s_lcmp (C : q_Ctx p R s m args c cc tab oc nL sc cells slots ad CA D A0) : q_c_lcmp tab (q_X p l e R s m args below meth c nL cells slots QQ ad CA D A0) := by
  obtain ⟨hx, hb, hml, hown, hts, hK, hd, hok, hA, hsc, hnw, hR1, hR2, hR3, hR4⟩ := C
  intro pc ls st h x y p0 k0 H locs LS hP hS hl
  exact W.lcmp hx hb (hd _ _ p0) (k0 H locs LS hP hS hl)
theorem q_s_l2i (C : q_Ctx p R s m args c cc tab oc nL sc cells slots ad CA D A0) : q_c_l2i tab (q_X p l e R s m args below meth c nL cells slots QQ ad CA D A0) := by
  obtain ⟨hx, hb, hml, hown, hts, hK, hd, hok, hA, hsc, hnw, hR1, hR2, hR3, hR4⟩ := C
  intro pc ls st h x p0 k0 H locs LS hP hS hl
  exact lv_l2i hx hb (hd _ _ p0) rfl (k0 H locs LS hP hS hl)
theorem q_s_dup (C : q_Ctx p R s m args c cc tab oc nL sc cells slots ad CA D A0) : q_c_dup tab (q_X p l e R s m args below meth c nL cells slots QQ ad CA D A0) := by
  obtain ⟨hx, hb, hml, hown, hts, hK, hd, hok, hA, hsc, hnw, hR1, hR2, hR3, hR4⟩ := C
  intro pc ls st h v p0 p1 k0 H locs LS hP hS hl
  exact lv_dup hx hb (hd _ _ p0) ((q_v_cat ad v).trans p1) (k0 H locs LS hP hS hl)
theorem q_s_dup2_11 (C : q_Ctx p R s m args c cc tab oc nL sc cells slots ad CA D A0) : q_c_dup2_11 tab (q_X p l e R s m args below meth c nL cells slots QQ ad CA D A0) := by
  obtain ⟨hx, hb, hml, hown, hts, hK, hd, hok, hA, hsc, hnw, hR1, hR2, hR3, hR4⟩ := C
  intro pc ls st h v w p0 p1 p2 k0 H locs LS hP hS hl
  exact lv_dup2_11 hx hb (hd _ _ p0) ((q_v_cat ad v).trans p1) ((q_v_cat ad w).trans p2) (k0 H locs LS hP hS hl)
theorem q_s_if_ne (C : q_Ctx p R s m args c cc tab oc nL sc cells slots ad CA D A0) : q_c_if_ne tab (q_X p l e R s m args below meth c nL cells slots QQ ad CA D A0) := by
  obtain ⟨hx, hb, hml, hown, hts, hK, hd, hok, hA, hsc, hnw, hR1, hR2, hR3, hR4⟩ := C
  intro pc ls st h off tgt x p0 p1 k0 k1 H locs LS hP hS hl
  exact lv_if_ne hx hb (hd _ _ p0) p1 (fun z => k0 z H locs LS hP hS hl) (fun z => k1 z H locs LS hP hS hl)
theorem q_s_icmp_ne (C : q_Ctx p R s m args c cc tab oc nL sc cells slots ad CA D A0) : q_c_icmp_ne tab (q_X p l e R s m args below meth c nL cells slots QQ ad CA D A0) := by
  obtain ⟨hx, hb, hml, hown, hts, hK, hd, hok, hA, hsc, hnw, hR1, hR2, hR3, hR4⟩ := C
  intro pc ls st h off tgt x y p0 p1 k0 k1 H locs LS hP hS hl
  exact lv_icmp_ne hx hb (hd _ _ p0) p1 (fun z => k0 z H locs LS hP hS hl) (fun z => k1 z H locs LS hP hS hl)
theorem q_s_if_eq (C : q_Ctx p R s m args c cc tab oc nL sc cells slots ad CA D A0) : q_c_if_eq tab (q_X p l e R s m args below meth c nL cells slots QQ ad CA D A0) := by
  obtain ⟨hx, hb, hml, hown, hts, hK, hd, hok, hA, hsc, hnw, hR1, hR2, hR3, hR4⟩ := C
  intro pc ls st h off tgt x p0 p1 k0 k1 H locs LS hP hS hl
  exact lv_if_eq hx hb (hd _ _ p0) p1 (fun z => k0 z H locs LS hP hS hl) (fun z => k1 z H locs LS hP hS hl)
theorem q_s_if_lt (C : q_Ctx p R s m args c cc tab oc nL sc cells slots ad CA D A0) : q_c_if_lt tab (q_X p l e R s m args below meth c nL cells slots QQ ad CA D A0) := by
  obtain ⟨hx, hb, hml, hown, hts, hK, hd, hok, hA, hsc, hnw, hR1, hR2, hR3, hR4⟩ := C
  intro pc ls st h off tgt x p0 p1 k0 k1 H locs LS hP hS hl
  exact lv_if_lt hx hb (hd _ _ p0) p1 (fun z => k0 z H locs LS hP hS hl) (fun z => k1 z H locs LS hP hS hl)
theorem q_s_if_ge (C : q_Ctx p R s m args c cc tab oc nL sc cells slots ad CA D A0) : q_c_if_ge tab (q_X p l e R s m args below meth c nL cells slots QQ ad CA D A0) := by
  obtain ⟨hx, hb, hml, hown, hts, hK, hd, hok, hA, hsc, hnw, hR1, hR2, hR3, hR4⟩ := C
  intro pc ls st h off tgt x p0 p1 k0 k1 H locs LS hP hS hl
  exact lv_if_ge hx hb (hd _ _ p0) p1 (fun z => k0 z H locs LS hP hS hl) (fun z => k1 z H locs LS hP hS hl)
theorem q_s_if_gt (C : q_Ctx p R s m args c cc tab oc nL sc cells slots ad CA D A0) : q_c_if_gt tab (q_X p l e R s m args below meth c nL cells slots QQ ad CA D A0) := by
  obtain ⟨hx, hb, hml, hown, hts, hK, hd, hok, hA, hsc, hnw, hR1, hR2, hR3, hR4⟩ := C
  intro pc ls st h off tgt x p0 p1 k0 k1 H locs LS hP hS hl
  exact lv_if_gt hx hb (hd _ _ p0) p1 (fun z => k0 z H locs LS hP hS hl) (fun z => k1 z H locs LS hP hS hl)
theorem q_s_if_le (C : q_Ctx p R s m args c cc tab oc nL sc cells slots ad CA D A0) : q_c_if_le tab (q_X p l e R s m args below meth c nL cells slots QQ ad CA D A0) := by
  obtain ⟨hx, hb, hml, hown, hts, hK, hd, hok, hA, hsc, hnw, hR1, hR2, hR3, hR4⟩ := C
  intro pc ls st h off tgt x p0 p1 k0 k1 H locs LS hP hS hl
  exact lv_if_le hx hb (hd _ _ p0) p1 (fun z => k0 z H locs LS hP hS hl) (fun z => k1 z H locs LS hP hS hl)
theorem q_s_icmp_eq (C : q_Ctx p R s m args c cc tab oc nL sc cells slots ad CA D A0) : q_c_icmp_eq tab (q_X p l e R s m args below meth c nL cells slots QQ ad CA D A0) := by
  obtain ⟨hx, hb, hml, hown, hts, hK, hd, hok, hA, hsc, hnw, hR1, hR2, hR3, hR4⟩ := C
  intro pc ls st h off tgt x y p0 p1 k0 k1 H locs LS hP hS hl
  exact lv_icmp_eq hx hb (hd _ _ p0) p1 (fun z => k0 z H locs LS hP hS hl) (fun z => k1 z H locs LS hP hS hl)
theorem q_s_icmp_lt (C : q_Ctx p R s m args c cc tab oc nL sc cells slots ad CA D A0) : q_c_icmp_lt tab (q_X p l e R s m args below meth c nL cells slots QQ ad CA D A0) := by
  obtain ⟨hx, hb, hml, hown, hts, hK, hd, hok, hA, hsc, hnw, hR1, hR2, hR3, hR4⟩ := C
  intro pc ls st h off tgt x y p0 p1 k0 k1 H locs LS hP hS hl
  exact lv_icmp_lt hx hb (hd _ _ p0) p1 (fun z => k0 z H locs LS hP hS hl) (fun z => k1 z H locs LS hP hS hl)
theorem q_s_icmp_ge (C : q_Ctx p R s m args c cc tab oc nL sc cells slots ad CA D A0) : q_c_icmp_ge tab (q_X p l e R s m args below meth c nL cells slots QQ ad CA D A0) := by
  obtain ⟨hx, hb, hml, hown, hts, hK, hd, hok, hA, hsc, hnw, hR1, hR2, hR3, hR4⟩ := C
  intro pc ls st h off tgt x y p0 p1 k0 k1 H locs LS hP hS hl
  exact lv_icmp_ge hx hb (hd _ _ p0) p1 (fun z => k0 z H locs LS hP hS hl) (fun z => k1 z H locs LS hP hS hl)
theorem q_s_icmp_gt (C : q_Ctx p R s m args c cc tab oc nL sc cells slots ad CA D A0) : q_c_icmp_gt tab (q_X p l e R s m args below meth c nL cells slots QQ ad CA D A0) := by
  obtain ⟨hx, hb, hml, hown, hts, hK, hd, hok, hA, hsc, hnw, hR1, hR2, hR3, hR4⟩ := C
  intro pc ls st h off tgt x y p0 p1 k0 k1 H locs LS hP hS hl
  exact lv_icmp_gt hx hb (hd _ _ p0) p1 (fun z => k0 z H locs LS hP hS hl) (fun z => k1 z H locs LS hP hS hl)
theorem q_s_icmp_le (C : q_Ctx p R s m args c cc tab oc nL sc cells slots ad CA D A0) : q_c_icmp_le tab (q_X p l e R s m args below meth c nL cells slots QQ ad CA D A0) := by
  obtain ⟨hx, hb, hml, hown, hts, hK, hd, hok, hA, hsc, hnw, hR1, hR2, hR3, hR4⟩ := C
  intro pc ls st h off tgt x y p0 p1 k0 k1 H locs LS hP hS hl
  exact lv_icmp_le hx hb (hd _ _ p0) p1 (fun z => k0 z H locs LS hP hS hl) (fun z => k1 z H locs LS hP hS hl)
theorem q_s_goto (C : q_Ctx p R s m args c cc tab oc nL sc cells slots ad CA D A0) : q_c_goto tab (q_X p l e R s m args below meth c nL cells slots QQ ad CA D A0) := by
  obtain ⟨hx, hb, hml, hown, hts, hK, hd, hok, hA, hsc, hnw, hR1, hR2, hR3, hR4⟩ := C
  intro pc ls st h off tgt p0 p1 k0 H locs LS hP hS hl
  exact lv_goto hx hb (hd _ _ p0) p1 (k0 H locs LS hP hS hl)
theorem q_s_tsOut (C : q_Ctx p R s m args c cc tab oc nL sc cells slots ad CA D A0) : q_c_tsOut tab (q_X p l e R s m args below meth c nL cells slots QQ ad CA D A0) := by
  obtain ⟨hx, hb, hml, hown, hts, hK, hd, hok, hA, hsc, hnw, hR1, hR2, hR3, hR4⟩ := C
  intro pc ls st h dflt lo hi offs len x tgt p0 p1 p2 k0 H locs LS hP hS hl
  exact lv_tableOut hx hb (hd _ _ p0) p1 p2 (k0 H locs LS hP hS hl)
theorem q_s_tsIn (C : q_Ctx p R s m args c cc tab oc nL sc cells slots ad CA D A0) : q_c_tsIn tab (q_X p l e R s m args below meth c nL cells slots QQ ad CA D A0) := by
  obtain ⟨hx, hb, hml, hown, hts, hK, hd, hok, hA, hsc, hnw, hR1, hR2, hR3, hR4⟩ := C
  intro pc ls st h dflt lo hi offs len x off tgt p0 p1 p2 p3 p4 k0 H locs LS hP hS hl
  exact lv_tableIn hx hb (hd _ _ p0) p1 p2 p3 p4 (k0 H locs LS hP hS hl)
theorem q_s_getI (C : q_Ctx p R s m args c cc tab oc nL sc cells slots ad CA D A0) : q_c_getI tab oc (q_X p l e R s m args below meth c nL cells slots QQ ad CA D A0) := by
  obtain ⟨hx, hb, hml, hown, hts, hK, hd, hok, hA, hsc, hnw, hR1, hR2, hR3, hR4⟩ := C
  intro pc ls st h f k i ci j p0 p1 p2 p3 p4 k0 H locs LS hP hS hl
  obtain ⟨q0, hq0⟩ := q_place p1
  have hm := q_look_mem _ _ _ _ p3
  obtain ⟨hc6, hjn⟩ := q_flds_n _ hm
  obtain ⟨hcl, hnn⟩ := q_cls_n ci hc6
  have hlink : (Cond.fieldLink (q_cN oc) f ((q_cls ci).2.1 j).1 ((q_cls ci).2.1 j).2.1 ((q_cls ci).2.1 j).2.2.1).before args s = true := hts _ (q_in_gw _ q_flds_w q_flds_g _ (List.mem_map.mpr ⟨_, hm, rfl⟩))
  have hlay : ∀ w ∈ u_ws (q_cls ci).1 (q_cls ci).2.1 (q_cls ci).2.2, w ∈ q_gw := fun w hw => q_in_gw _ q_lay_w q_lay_g _ (List.mem_flatMap.mpr ⟨ci, List.mem_range.mpr hc6, hw⟩)
  have hcell : (q_wl ad CA h)[q0]? = some (ad k i, .inr (ci, (List.range (q_nf ci)).map (q_fv ad h k i ci))) := by rw [q_wl_at hq0, q_E_obj p2]
  have hfv : q_fv ad h k i ci j = .int (h.1 k i j) := by unfold q_fv; rw [p4]; rfl
  exact va_get hx hb hts hlay hown hK hP q0 hcell hcl j (by rw [hnn]; exact hjn) hlink (fun _ z => z) (by rw [q_fs_at hjn, hfv]; rfl) (hd _ _ p0) (k0 H locs LS hP hS hl)
theorem q_s_getL (C : q_Ctx p R s m args c cc tab oc nL sc cells slots ad CA D A0) : q_c_getL tab oc (q_X p l e R s m args below meth c nL cells slots QQ ad CA D A0) := by
  obtain ⟨hx, hb, hml, hown, hts, hK, hd, hok, hA, hsc, hnw, hR1, hR2, hR3, hR4⟩ := C
  intro pc ls st h f k i ci j p0 p1 p2 p3 p4 k0 H locs LS hP hS hl
  obtain ⟨q0, hq0⟩ := q_place p1
  have hm := q_look_mem _ _ _ _ p3
  obtain ⟨hc6, hjn⟩ := q_flds_n _ hm
  obtain ⟨hcl, hnn⟩ := q_cls_n ci hc6
  have hlink : (Cond.fieldLink (q_cN oc) f ((q_cls ci).2.1 j).1 ((q_cls ci).2.1 j).2.1 ((q_cls ci).2.1 j).2.2.1).before args s = true := hts _ (q_in_gw _ q_flds_w q_flds_g _ (List.mem_map.mpr ⟨_, hm, rfl⟩))
  have hlay : ∀ w ∈ u_ws (q_cls ci).1 (q_cls ci).2.1 (q_cls ci).2.2, w ∈ q_gw := fun w hw => q_in_gw _ q_lay_w q_lay_g _ (List.mem_flatMap.mpr ⟨ci, List.mem_range.mpr hc6, hw⟩)
  have hcell : (q_wl ad CA h)[q0]? = some (ad k i, .inr (ci, (List.range (q_nf ci)).map (q_fv ad h k i ci))) := by rw [q_wl_at hq0, q_E_obj p2]
  have hfv : q_fv ad h k i ci j = .long (h.2 k i j) := by unfold q_fv; rw [p4]; rfl
  exact va_get hx hb hts hlay hown hK hP q0 hcell hcl j (by rw [hnn]; exact hjn) hlink (fun _ z => z) (by rw [q_fs_at hjn, hfv]; rfl) (hd _ _ p0) (k0 H locs LS hP hS hl)
theorem q_s_getR (C : q_Ctx p R s m args c cc tab oc nL sc cells slots ad CA D A0) : q_c_getR tab oc (q_X p l e R s m args below meth c nL cells slots QQ ad CA D A0) := by
  obtain ⟨hx, hb, hml, hown, hts, hK, hd, hok, hA, hsc, hnw, hR1, hR2, hR3, hR4⟩ := C
  intro pc ls st h f k i ci j p0 p1 p2 p3 p4 k0 H locs LS hP hS hl
  obtain ⟨q0, hq0⟩ := q_place p1
  have hm := q_look_mem _ _ _ _ p3
  obtain ⟨hc6, hjn⟩ := q_flds_n _ hm
  obtain ⟨hcl, hnn⟩ := q_cls_n ci hc6
  have hlink : (Cond.fieldLink (q_cN oc) f ((q_cls ci).2.1 j).1 ((q_cls ci).2.1 j).2.1 ((q_cls ci).2.1 j).2.2.1).before args s = true := hts _ (q_in_gw _ q_flds_w q_flds_g _ (List.mem_map.mpr ⟨_, hm, rfl⟩))
  have hlay : ∀ w ∈ u_ws (q_cls ci).1 (q_cls ci).2.1 (q_cls ci).2.2, w ∈ q_gw := fun w hw => q_in_gw _ q_lay_w q_lay_g _ (List.mem_flatMap.mpr ⟨ci, List.mem_range.mpr hc6, hw⟩)
  have hcell : (q_wl ad CA h)[q0]? = some (ad k i, .inr (ci, (List.range (q_nf ci)).map (q_fv ad h k i ci))) := by rw [q_wl_at hq0, q_E_obj p2]
  have hfv : q_fv ad h k i ci j = .ref (ad (q_rf k i j).1 (q_rf k i j).2) := by unfold q_fv; rw [p4]; rfl
  exact va_get hx hb hts hlay hown hK hP q0 hcell hcl j (by rw [hnn]; exact hjn) hlink (fun _ z => z) (by rw [q_fs_at hjn, hfv]; rfl) (hd _ _ p0) (k0 H locs LS hP hS hl)
theorem q_s_putI (C : q_Ctx p R s m args c cc tab oc nL sc cells slots ad CA D A0) : q_c_putI tab oc (q_X p l e R s m args below meth c nL cells slots QQ ad CA D A0) := by
  obtain ⟨hx, hb, hml, hown, hts, hK, hd, hok, hA, hsc, hnw, hR1, hR2, hR3, hR4⟩ := C
  intro pc ls st h f k i ci j v p0 p1 p2 p3 p4 k0 H locs LS hP hS hl
  obtain ⟨q0, hq0⟩ := q_place p1
  have hm := q_look_mem _ _ _ _ p3
  obtain ⟨hc6, hjn⟩ := q_flds_n _ hm
  obtain ⟨hcl, hnn⟩ := q_cls_n ci hc6
  have hlink : (Cond.fieldLink (q_cN oc) f ((q_cls ci).2.1 j).1 ((q_cls ci).2.1 j).2.1 ((q_cls ci).2.1 j).2.2.1).before args s = true := hts _ (q_in_gw _ q_flds_w q_flds_g _ (List.mem_map.mpr ⟨_, hm, rfl⟩))
  have hlay : ∀ w ∈ u_ws (q_cls ci).1 (q_cls ci).2.1 (q_cls ci).2.2, w ∈ q_gw := fun w hw => q_in_gw _ q_lay_w q_lay_g _ (List.mem_flatMap.mpr ⟨ci, List.mem_range.mpr hc6, hw⟩)
  have hcell : (q_wl ad CA h)[q0]? = some (ad k i, .inr (ci, (List.range (q_nf ci)).map (q_fv ad h k i ci))) := by rw [q_wl_at hq0, q_E_obj p2]
  have hft := (q_cls_f ci hc6 j hjn).1 p4
  have hset : (q_wl ad CA h).set q0 (ad k i, .inr (ci, ((List.range (q_nf ci)).map (q_fv ad h k i ci)).set j (.int v))) = q_wl ad CA (q_sI h k i j v) := by
    refine q_wl_set hq0 ?_ (fun k1 i1 hn => q_sI_ne k1 i1 hn)
    rw [q_E_obj p2]
    congr 2
    refine (q_fs_set ?_ (fun x hx => ?_)).symm
    · unfold q_fv
      rw [p4]
      simp [q_sI]
    · unfold q_fv
      simp [q_sI, hx]
  refine va_put (ty := .int) hx hb hts hlay (q_tyf ci) (by rw [hnn]; exact (q_cls_t ci hc6).1) (by rw [hnn]; exact (q_cls_t ci hc6).2) hown hK hP (q_wl_D hok hA) hS q0 hcell hcl j (by rw [hnn]; exact hjn) hlink (fun _ z => z) hft.2 (by rw [(q_cls_t ci hc6).1 j hjn, hft.1]) rfl rfl (by rw [List.length_map, List.length_range]; exact hjn) (hd _ _ p0) (fun H1 locs1 hP1 _ hS1 => ?_)
  exact k0 H1 locs1 LS (by rw [← hset]; exact hP1) hS1 hl
theorem q_s_putL (C : q_Ctx p R s m args c cc tab oc nL sc cells slots ad CA D A0) : q_c_putL tab oc (q_X p l e R s m args below meth c nL cells slots QQ ad CA D A0) := by
  obtain ⟨hx, hb, hml, hown, hts, hK, hd, hok, hA, hsc, hnw, hR1, hR2, hR3, hR4⟩ := C
  intro pc ls st h f k i ci j v p0 p1 p2 p3 p4 k0 H locs LS hP hS hl
  obtain ⟨q0, hq0⟩ := q_place p1
  have hm := q_look_mem _ _ _ _ p3
  obtain ⟨hc6, hjn⟩ := q_flds_n _ hm
  obtain ⟨hcl, hnn⟩ := q_cls_n ci hc6
  have hlink : (Cond.fieldLink (q_cN oc) f ((q_cls ci).2.1 j).1 ((q_cls ci).2.1 j).2.1 ((q_cls ci).2.1 j).2.2.1).before args s = true := hts _ (q_in_gw _ q_flds_w q_flds_g _ (List.mem_map.mpr ⟨_, hm, rfl⟩))
  have hlay : ∀ w ∈ u_ws (q_cls ci).1 (q_cls ci).2.1 (q_cls ci).2.2, w ∈ q_gw := fun w hw => q_in_gw _ q_lay_w q_lay_g _ (List.mem_flatMap.mpr ⟨ci, List.mem_range.mpr hc6, hw⟩)
  have hcell : (q_wl ad CA h)[q0]? = some (ad k i, .inr (ci, (List.range (q_nf ci)).map (q_fv ad h k i ci))) := by rw [q_wl_at hq0, q_E_obj p2]
  have hft := (q_cls_f ci hc6 j hjn).2 p4
  have hset : (q_wl ad CA h).set q0 (ad k i, .inr (ci, ((List.range (q_nf ci)).map (q_fv ad h k i ci)).set j (.long v))) = q_wl ad CA (q_sL h k i j v) := by
    refine q_wl_set hq0 ?_ (fun k1 i1 hn => q_sL_ne k1 i1 hn)
    rw [q_E_obj p2]
    congr 2
    refine (q_fs_set ?_ (fun x hx => ?_)).symm
    · unfold q_fv
      rw [p4]
      simp [q_sL]
    · unfold q_fv
      simp [q_sL, hx]
  refine va_put (ty := .long) hx hb hts hlay (q_tyf ci) (by rw [hnn]; exact (q_cls_t ci hc6).1) (by rw [hnn]; exact (q_cls_t ci hc6).2) hown hK hP (q_wl_D hok hA) hS q0 hcell hcl j (by rw [hnn]; exact hjn) hlink (fun _ z => z) hft.2 (by rw [(q_cls_t ci hc6).1 j hjn, hft.1]) rfl rfl (by rw [List.length_map, List.length_range]; exact hjn) (hd _ _ p0) (fun H1 locs1 hP1 _ hS1 => ?_)
  exact k0 H1 locs1 LS (by rw [← hset]; exact hP1) hS1 hl
theorem q_s_iaload (C : q_Ctx p R s m args c cc tab oc nL sc cells slots ad CA D A0) : q_c_iaload tab (q_X p l e R s m args below meth c nL cells slots QQ ad CA D A0) := by
  obtain ⟨hx, hb, hml, hown, hts, hK, hd, hok, hA, hsc, hnw, hR1, hR2, hR3, hR4⟩ := C
  intro pc ls st h k i x p0 p1 p2 p3 p4 k0 H locs LS hP hS hl
  obtain ⟨q0, hq0⟩ := q_place p1
  have hcell := q_wl_at (ad := ad) (CA := CA) (h := h) hq0
  rw [q_E_1 p2 p3] at hcell
  exact va_iald hx hb hK hP q0 0 hcell rfl p4 (hd _ _ p0) (k0 H locs LS hP hS hl)
theorem q_s_zaload (C : q_Ctx p R s m args c cc tab oc nL sc cells slots ad CA D A0) : q_c_zaload tab (q_X p l e R s m args below meth c nL cells slots QQ ad CA D A0) := by
  obtain ⟨hx, hb, hml, hown, hts, hK, hd, hok, hA, hsc, hnw, hR1, hR2, hR3, hR4⟩ := C
  intro pc ls st h k i x p0 p1 p2 p3 p4 k0 H locs LS hP hS hl
  obtain ⟨q0, hq0⟩ := q_place p1
  have hcell := q_wl_at (ad := ad) (CA := CA) (h := h) hq0
  rw [q_E_3 p2 p3] at hcell
  exact va_zald hx hb hK hP q0 2 hcell rfl p4 (hd _ _ p0) (k0 H locs LS hP hS hl)
theorem q_s_laload (C : q_Ctx p R s m args c cc tab oc nL sc cells slots ad CA D A0) : q_c_laload tab (q_X p l e R s m args below meth c nL cells slots QQ ad CA D A0) := by
  obtain ⟨hx, hb, hml, hown, hts, hK, hd, hok, hA, hsc, hnw, hR1, hR2, hR3, hR4⟩ := C
  intro pc ls st h k i x p0 p1 p2 p3 p4 k0 H locs LS hP hS hl
  obtain ⟨q0, hq0⟩ := q_place p1
  have hcell := q_wl_at (ad := ad) (CA := CA) (h := h) hq0
  rw [q_E_2 p2 p3] at hcell
  exact va_lald hx hb hK hP q0 1 hcell rfl p4 (hd _ _ p0) (k0 H locs LS hP hS hl)
theorem q_s_aaload (C : q_Ctx p R s m args c cc tab oc nL sc cells slots ad CA D A0) : q_c_aaload tab (q_X p l e R s m args below meth c nL cells slots QQ ad CA D A0) := by
  obtain ⟨hx, hb, hml, hown, hts, hK, hd, hok, hA, hsc, hnw, hR1, hR2, hR3, hR4⟩ := C
  intro pc ls st h k i x p0 p1 p2 p3 p4 k0 H locs LS hP hS hl
  obtain ⟨q0, hq0⟩ := q_place p1
  have hcell := q_wl_at (ad := ad) (CA := CA) (h := h) hq0
  rw [q_E_4 p2 p3] at hcell
  exact va_aldq hx hb hK hP q0 3 hcell rfl p4 (hd _ _ p0) (k0 H locs LS hP hS hl)
theorem q_s_iastore (C : q_Ctx p R s m args c cc tab oc nL sc cells slots ad CA D A0) : q_c_iastore tab (q_X p l e R s m args below meth c nL cells slots QQ ad CA D A0) := by
  obtain ⟨hx, hb, hml, hown, hts, hK, hd, hok, hA, hsc, hnw, hR1, hR2, hR3, hR4⟩ := C
  intro pc ls st h k i x v p0 p1 p2 p3 p4 k0 H locs LS hP hS hl
  obtain ⟨q0, hq0⟩ := q_place p1
  have hset : (q_wl ad CA h).set q0 (ad k i, .inl (CA 0, q_len k i, .inl (upd (h.1 k i) x.toNatClampNeg v))) = q_wl ad CA (q_sI h k i x.toNatClampNeg v) := by
    refine q_wl_set hq0 ?_ (fun k1 i1 hn => q_sI_ne k1 i1 hn)
    rw [q_E_1 p2 p3, q_sI_at]
  have hcell := q_wl_at (ad := ad) (CA := CA) (h := h) hq0
  rw [q_E_1 p2 p3] at hcell
  refine va_iast hx hb hK hP (q_wl_D hok hA) hS q0 0 hcell rfl p4 (hd _ _ p0) (fun H1 locs1 hP1 _ hS1 => ?_)
  exact k0 H1 locs1 LS (by rw [← hset]; exact hP1) hS1 hl
theorem q_s_zastore (C : q_Ctx p R s m args c cc tab oc nL sc cells slots ad CA D A0) : q_c_zastore tab (q_X p l e R s m args below meth c nL cells slots QQ ad CA D A0) := by
  obtain ⟨hx, hb, hml, hown, hts, hK, hd, hok, hA, hsc, hnw, hR1, hR2, hR3, hR4⟩ := C
  intro pc ls st h k i x v p0 p1 p2 p3 p4 p5 k0 H locs LS hP hS hl
  obtain ⟨q0, hq0⟩ := q_place p1
  have hv : vp_nar .boolean v = v := by rcases p5 with rfl | rfl <;> rfl
  have hset : (q_wl ad CA h).set q0 (ad k i, .inl (CA 2, q_len k i, .inl (upd (h.1 k i) x.toNatClampNeg (vp_nar .boolean v)))) = q_wl ad CA (q_sI h k i x.toNatClampNeg v) := by
    refine q_wl_set hq0 ?_ (fun k1 i1 hn => q_sI_ne k1 i1 hn)
    rw [q_E_3 p2 p3, q_sI_at, hv]
  have hcell := q_wl_at (ad := ad) (CA := CA) (h := h) hq0
  rw [q_E_3 p2 p3] at hcell
  refine va_zast hx hb hK hP (q_wl_D hok hA) hS q0 2 hcell rfl p4 (hd _ _ p0) (fun H1 locs1 hP1 _ hS1 => ?_)
  exact k0 H1 locs1 LS (by rw [← hset]; exact hP1) hS1 hl
theorem q_s_lastore (C : q_Ctx p R s m args c cc tab oc nL sc cells slots ad CA D A0) : q_c_lastore tab (q_X p l e R s m args below meth c nL cells slots QQ ad CA D A0) := by
  obtain ⟨hx, hb, hml, hown, hts, hK, hd, hok, hA, hsc, hnw, hR1, hR2, hR3, hR4⟩ := C
  intro pc ls st h k i x v p0 p1 p2 p3 p4 k0 H locs LS hP hS hl
  obtain ⟨q0, hq0⟩ := q_place p1
  have hset : (q_wl ad CA h).set q0 (ad k i, .inl (CA 1, q_len k i, .inr (.inl (vp_updL (h.2 k i) x.toNatClampNeg v)))) = q_wl ad CA (q_sL h k i x.toNatClampNeg v) := by
    refine q_wl_set hq0 ?_ (fun k1 i1 hn => q_sL_ne k1 i1 hn)
    rw [q_E_2 p2 p3, q_sL_at]
  have hcell := q_wl_at (ad := ad) (CA := CA) (h := h) hq0
  rw [q_E_2 p2 p3] at hcell
  refine va_last hx hb hK hP (q_wl_D hok hA) hS q0 1 hcell rfl p4 (hd _ _ p0) (fun H1 locs1 hP1 _ hS1 => ?_)
  exact k0 H1 locs1 LS (by rw [← hset]; exact hP1) hS1 hl
theorem q_s_alen (C : q_Ctx p R s m args c cc tab oc nL sc cells slots ad CA D A0) : q_c_alen tab (q_X p l e R s m args below meth c nL cells slots QQ ad CA D A0) := by
  obtain ⟨hx, hb, hml, hown, hts, hK, hd, hok, hA, hsc, hnw, hR1, hR2, hR3, hR4⟩ := C
  intro pc ls st h k i p0 p1 p2 p3 p4 k0 H locs LS hP hS hl
  obtain ⟨q0, hq0⟩ := q_place p1
  have hat : q_at k = 1 ∨ q_at k = 2 ∨ q_at k = 3 ∨ q_at k = 4 := by omega
  rcases hat with ha | ha | ha | ha
  · have hcell := q_wl_at (ad := ad) (CA := CA) (h := h) hq0
    rw [q_E_1 p2 ha] at hcell
    exact va_alen hx hb hK hP q0 0 hcell rfl rfl (hd _ _ p0) (k0 H locs LS hP hS hl)
  · have hcell := q_wl_at (ad := ad) (CA := CA) (h := h) hq0
    rw [q_E_2 p2 ha] at hcell
    exact va_alen hx hb hK hP q0 1 hcell rfl rfl (hd _ _ p0) (k0 H locs LS hP hS hl)
  · have hcell := q_wl_at (ad := ad) (CA := CA) (h := h) hq0
    rw [q_E_3 p2 ha] at hcell
    exact va_alen hx hb hK hP q0 2 hcell rfl rfl (hd _ _ p0) (k0 H locs LS hP hS hl)
  · have hcell := q_wl_at (ad := ad) (CA := CA) (h := h) hq0
    rw [q_E_4 p2 ha] at hcell
    exact va_alen hx hb hK hP q0 3 hcell rfl rfl (hd _ _ p0) (k0 H locs LS hP hS hl)
theorem q_s_sld (C : q_Ctx p R s m args c cc tab oc nL sc cells slots ad CA D A0) : q_c_sld tab sc (q_X p l e R s m args below meth c nL cells slots QQ ad CA D A0) := by
  obtain ⟨hx, hb, hml, hown, hts, hK, hd, hok, hA, hsc, hnw, hR1, hR2, hR3, hR4⟩ := C
  intro pc ls st h L xs x p0 p1 p2 k0 H locs LS hP hS hl
  obtain ⟨hX, hbl, hbA⟩ := hsc L xs p1
  exact va_sld hx hb hX hbl hbA hS p2 (hd _ _ p0) (k0 H locs LS hP hS hl)
theorem q_s_slen (C : q_Ctx p R s m args c cc tab oc nL sc cells slots ad CA D A0) : q_c_slen tab sc (q_X p l e R s m args below meth c nL cells slots QQ ad CA D A0) := by
  obtain ⟨hx, hb, hml, hown, hts, hK, hd, hok, hA, hsc, hnw, hR1, hR2, hR3, hR4⟩ := C
  intro pc ls st h L xs p0 p1 k0 H locs LS hP hS hl
  obtain ⟨hX, hbl, hbA⟩ := hsc L xs p1
  exact va_slen hx hb hX hbl hbA hS (hd _ _ p0) (k0 H locs LS hP hS hl)
theorem q_s_mmax (C : q_Ctx p R s m args c cc tab oc nL sc cells slots ad CA D A0) : q_c_mmax tab oc (q_X p l e R s m args below meth c nL cells slots QQ ad CA D A0) := by
  obtain ⟨hx, hb, hml, hown, hts, hK, hd, hok, hA, hsc, hnw, hR1, hR2, hR3, hR4⟩ := C
  intro pc ls st h f x y p0 p1 p2 k0 H locs LS hP hS hl
  have hm := q_look_mem _ _ _ _ p1
  have hw : ∀ w ∈ q_mmW ((oc, f), 0), w.before args s = true := fun w hw => hts w (q_in_gw _ q_mms_w q_mms_g _ (List.mem_flatMap.mpr ⟨_, hm, hw⟩))
  have hcd := hts _ (q_in_gw _ q_mmc_w q_mmc_g _ (List.mem_of_getElem? (i := 0) rfl))
  exact va_mmax hx hb (hml.trans hl.1.symm) hown (hw _ (List.mem_of_getElem? (i := 0) rfl)) (hw _ (List.mem_of_getElem? (i := 1) rfl)) (hw _ (List.mem_of_getElem? (i := 2) rfl)) hcd hR1 (by rw [q_size_cat]; omega) hR3 hR4 (hd _ _ p0) (k0 H locs LS hP hS hl)
theorem q_s_mmin (C : q_Ctx p R s m args c cc tab oc nL sc cells slots ad CA D A0) : q_c_mmin tab oc (q_X p l e R s m args below meth c nL cells slots QQ ad CA D A0) := by
  obtain ⟨hx, hb, hml, hown, hts, hK, hd, hok, hA, hsc, hnw, hR1, hR2, hR3, hR4⟩ := C
  intro pc ls st h f x y p0 p1 p2 k0 H locs LS hP hS hl
  have hm := q_look_mem _ _ _ _ p1
  have hw : ∀ w ∈ q_mmW ((oc, f), 1), w.before args s = true := fun w hw => hts w (q_in_gw _ q_mms_w q_mms_g _ (List.mem_flatMap.mpr ⟨_, hm, hw⟩))
  have hcd := hts _ (q_in_gw _ q_mmc_w q_mmc_g _ (List.mem_of_getElem? (i := 1) rfl))
  exact va_mmin hx hb (hml.trans hl.1.symm) hown (hw _ (List.mem_of_getElem? (i := 0) rfl)) (hw _ (List.mem_of_getElem? (i := 1) rfl)) (hw _ (List.mem_of_getElem? (i := 2) rfl)) hcd hR1 (by rw [q_size_cat]; omega) hR3 hR4 (hd _ _ p0) (k0 H locs LS hP hS hl)
theorem q_s_sub (C : q_Ctx p R s m args c cc tab oc nL sc cells slots ad CA D A0) : q_c_sub (q_X p l e R s m args below meth c nL cells slots QQ ad CA D A0) := by
  obtain ⟨hx, hb, hml, hown, hts, hK, hd, hok, hA, hsc, hnw, hR1, hR2, hR3, hR4⟩ := C
  intro pc ls ls1 st h ks p0 k0 H locs LS hP hS hl
  refine k0 H locs LS hP hS ⟨hl.1, hl.2.1, fun q hq => hl.2.2 q ?_⟩
  obtain ⟨x, hx1, rfl⟩ := List.mem_map.mp hq
  rw [← p0] at hx1
  obtain ⟨n, -, hn⟩ := List.mem_filterMap.mp hx1
  exact List.mem_map.mpr ⟨x, List.mem_of_getElem? hn, rfl⟩
theorem q_sA (C : q_Ctx p R s m args c cc tab oc nL sc cells slots ad CA D A0) : q_cloA tab oc nL sc (q_X p l e R s m args below meth c nL cells slots QQ ad CA D A0) := ⟨q_s_iconst C, q_s_bipush C, q_s_sipush C, q_s_lconst C, q_s_ldc C, q_s_ldc2 C, q_s_iload_n C, q_s_iload C, q_s_lload_n C, q_s_lload C, q_s_aload_n C, q_s_istore_n C, q_s_istore C, q_s_lstore_n C, q_s_lstore C, q_s_iinc C, q_s_iadd C, q_s_isub C, q_s_imul C, q_s_iand C, q_s_ior C, q_s_ixor C, q_s_ishl C, q_s_ishr C, q_s_idiv C, q_s_iushr C, q_s_ladd C, q_s_lsub C, q_s_land C, q_s_lor C, q_s_lxor C, q_s_lshl C, q_s_lushr C, q_s_lcmp C, q_s_l2i C, q_s_dup C, q_s_dup2_11 C, q_s_if_ne C, q_s_icmp_ne C, q_s_if_eq C, q_s_if_lt C, q_s_if_ge C, q_s_if_gt C, q_s_if_le C, q_s_icmp_eq C, q_s_icmp_lt C, q_s_icmp_ge C, q_s_icmp_gt C, q_s_icmp_le C, q_s_goto C, q_s_tsOut C, q_s_tsIn C, q_s_getI C, q_s_getL C, q_s_getR C, q_s_putI C, q_s_putL C, q_s_iaload C, q_s_zaload C, q_s_laload C, q_s_aaload C, q_s_iastore C, q_s_zastore C, q_s_lastore C, q_s_alen C, q_s_sld C, q_s_slen C, q_s_mmax C, q_s_mmin C, q_s_sub C⟩
end QS
/-! ===== calls, ends, and the whole ===== -/
def q_mW (mi : Nat) : List Cond := q_code mi :: q_gw
def q_room (d : Nat) : Room := { frames := d, cells := 0, slots := 0, locals := 40 * d }
def q_B (ad : Nat → Nat → Nat) (CA : Nat → ClassId) (D : va_G) (u : q_H) (t : State) : Prop := va_P D q_classes (q_wl ad CA u) t.heap
def q_Pc (ad : Nat → Nat → Nat) (CA : Nat → ClassId) (D : va_G) (as : List q_V) (h : q_H) : Array Value → State → Prop := va_Pc (as.map (q_v ad)) (fun U => va_P D q_classes (q_wl ad CA h) U.heap ∧ va_K D q_classes (q_tys CA) U ∧ ∀ w ∈ q_nest, va_Nw w U)
def q_Qc (ad : Nat → Nat → Nat) (CA : Nat → ClassId) (D : va_G) (rt : Nat) (Q : Option q_V → q_H → Prop) : Array Value → State → Outcome → State → Prop := match rt with
  | 0 => va_Qv (fun u : q_H => Q none u) (q_B ad CA D) (q_A ad)
  | 2 => va_Ql (fun (r : Int64) (u : q_H) => Q (some (q_l r)) u) (q_B ad CA D) (q_A ad)
  | _ => va_Qi (fun (r : Int32) (u : q_H) => Q (some (q_i r)) u) (q_B ad CA D) (q_A ad)
theorem q_blind (ad : Nat → Nat → Nat) (CA : Nat → ClassId) (D : va_G) (as : List q_V) (h : q_H) : FrameBlind (q_Pc ad CA D as h) := by
  intro a U g mk q
  obtain ⟨e, hP, hK, hN⟩ := q
  exact ⟨e, hP, va_K.moved (u := U) (U := U.calling g mk a) (Vm.Alike.refl U.vm) hK, fun w hw => va_tabs (q_nest_t w hw) (u := U) rfl (hN w hw)⟩
theorem q_good {mi : Nat} (h : mi < q_NM) : GoodIn q_gw (q_mW mi) := by
  intro w hw
  rcases List.mem_cons.mp hw with rfl | hw
  · exact ⟨q_code_in h, Or.inl rfl⟩
  · exact ⟨hw, good_of_word (List.mem_filter.mp hw).2⟩
theorem q_goodL {ws : List Cond} (h : ∀ w ∈ ws, w ∈ q_gw) : GoodIn q_gw ws := fun w hw => ⟨h w hw, good_of_word (List.mem_filter.mp (h w hw)).2⟩
theorem q_goodA {a b : List Cond} (ha : GoodIn q_gw a) (hb : GoodIn q_gw b) : GoodIn q_gw (a ++ b) := fun w h => (List.mem_append.mp h).elim (ha w) (hb w)
theorem q_den_lt {d mi : Nat} {as : List q_V} {h : q_H} {Q : Option q_V → q_H → Prop} (k : q_den d mi as h Q) : mi < q_NM := by
  cases d with
  | zero => exact k.elim
  | succ d => exact k.1
def q_Mets (l : Launch) (ad : Nat → Nat → Nat) (CA : Nat → ClassId) (D : va_G) (d : Nat) : Prop := ∀ (mi : Nat) (as : List q_V) (h : q_H) (Q : Option q_V → q_H → Prop), q_den d mi as h Q → Met l (q_mY mi) (q_mW mi) (q_room d) (q_Pc ad CA D as h) (q_Qc ad CA D (q_mR mi) Q) 0 0 (q_A ad)
section QT
variable {p : Program} {l : Launch} {e : Env} {R : Room} {s : State} {m : MethodId} {args : Array Value} {below : List Frame} {meth : Method} {c : Code} {cc : ByteArray} {tab : Nat → Option (Instr × Nat)} {oc nL : Nat} {sc : Option (Nat × (Nat → Int32))} {cells slots : Nat} {QQ : State → Prop} {ad : Nat → Nat → Nat} {CA : Nat → ClassId} {D : va_G} {A0 : Nat → Prop}
theorem q_pre (C : q_Ctx p R s m args c cc tab oc nL sc cells slots ad CA D A0) {h : q_H} {H : Heap} (as : List q_V) (hP : va_P D q_classes (q_wl ad CA h) H) : ∀ U : State, U.heap = H → s.WarmedH U.vm → q_Pc ad CA D as h (as.map (q_v ad)).toArray U := by
  obtain ⟨hx, hb, hml, hown, hts, hK, hd, hok, hA, hsc, hnw, hR1, hR2, hR3, hR4⟩ := C
  intro U hU hW
  refine ⟨rfl, by rw [hU]; exact hP, va_K.moved hW.alike hK, fun w hw => ?_⟩
  obtain ⟨a, i, x, b, rfl⟩ := q_nest_f w hw
  exact va_Nw.warmM hW (hnw _ hw)
theorem q_after (C : q_Ctx p R s m args c cc tab oc nL sc cells slots ad CA D A0) {mi pc : Nat} {ls : List (Nat × q_V)} {rest : List q_V} {H : Heap} {locs : List Loc} {LS : Array Slot} {st0 : List Value} {a : Array Value} (hmi : mi < q_NM)
    (hr : va_Run p l e R s m args below meth c H locs cells slots 0 0 (F0 m pc LS st0) (rest.map (q_v ad)) (q_Qc ad CA D (q_mR mi) (fun r h1 => q_X p l e R s m args below meth c nL cells slots QQ ad CA D A0 (pc + 3) ls (r.toList ++ rest) h1) a) (q_A ad)) (hS : va_S A0 s.heap H locs) (hl : lv_has LS nL (q_ls ad ls)) :
    W p l e R s m args below meth c H locs cells slots QQ (F0 m pc LS st0) := by
  obtain ⟨hx, hb, hml, hown, hts, hK, hd, hok, hA, hsc, hnw, hR1, hR2, hR3, hR4⟩ := C
  have h3 := (q_mT_n mi hmi).2.2.2.2
  unfold q_Qc at hr
  generalize q_mR mi = rt at hr h3
  match rt, h3, hr with
  | 0, _, hr => exact va_callv hr hS (fun q _ h => hA q h) hA (fun u t H1 locs1 ht hvm hpost hB hz hk hS1 => hpost H1 locs1 LS (by rw [← ht]; exact hB) hS1 hl)
  | 1, _, hr => exact va_calli hr hS (fun q _ h => hA q h) hA (fun r u t H1 locs1 ht hvm hpost hB hz hk hS1 => hpost H1 locs1 LS (by rw [← ht]; exact hB) hS1 hl)
  | 2, _, hr => exact va_calll hr hS (fun q _ h => hA q h) hA (fun r u t H1 locs1 ht hvm hpost hB hz hk hS1 => hpost H1 locs1 LS (by rw [← ht]; exact hB) hS1 hl)
  | 3, _, hr => exact va_calli hr hS (fun q _ h => hA q h) hA (fun r u t H1 locs1 ht hvm hpost hB hz hk hS1 => hpost H1 locs1 LS (by rw [← ht]; exact hB) hS1 hl)
  | n + 4, h3, _ => omega
theorem q_sC (C : q_Ctx p R s m args c cc tab oc nL sc cells slots ad CA D A0) {d : Nat} (hM : q_Mets l ad CA D d) (hR : d + 1 ≤ R.frames ∧ 38 + 40 * d ≤ R.locals) : q_cloC tab oc (q_den d) (q_X p l e R s m args below meth c nL cells slots QQ ad CA D A0) := by
  have C0 := C
  obtain ⟨hx, hb, hml, hown, hts, hK, hd, hok, hA, hsc, hnw, hR1, hR2, hR3, hR4⟩ := C
  refine ⟨?_, ?_⟩
  · intro pc ls st h f mi k i As rest p0 p1 p2 p3 p4 p5 p6 kk H locs LS hP hS hl
    have hmi := q_den_lt kk
    have hm := q_look_mem _ _ _ _ p1
    obtain ⟨q0, hq0⟩ := q_place p3
    obtain ⟨n1, n2, n3, n4, n5⟩ := q_mY_n mi hmi
    have hc6 : q_mO mi < 6 := q_kc_lt k (q_cnt_lt p3) _ p4
    obtain ⟨hcl, hnn⟩ := q_cls_n _ hc6
    have hcell : (q_wl ad CA h)[q0]? = some (ad k i, .inr (q_mO mi, (List.range (q_nf (q_mO mi))).map (q_fv ad h k i (q_mO mi)))) := by rw [q_wl_at hq0, q_E_obj p4]
    have hgw : ∀ w ∈ q_mthW ((oc, f), (mi, 0)), w ∈ q_gw := fun w hw => q_in_gw _ q_mths_w q_mths_g _ (List.mem_flatMap.mpr ⟨_, hm, hw⟩)
    have hG : GoodIn q_gw (wsV (q_cN oc) f (q_mY mi).cls (q_mY mi) (q_mW mi)) := q_goodA (q_goodL hgw) (q_good hmi)
    have hrecv : ∃ cellB : Cell, H[ad k i]? = some cellB ∧ cellB.vm.isStatics = false ∧ s.vm.findClass (q_mY mi).cls = some cellB.cls := by
      rw [q_mO_n mi hmi _ hc6 rfl]
      exact va_recv hK hP hcl hcell
    refine q_after C0 (mi := mi) hmi (rest := rest) (va_runV (C := (q_mY mi).cls) (n := q_mA mi) (As := As.map (q_v ad)) (b := ad k i) ⟨hx, hb, hml, hown, hts⟩ (hM mi (q_r k i :: As) h _ kk) (cwV (q_mA mi) hts hG rfl rfl rfl ⟨rfl, n3.1, n3.2, n4⟩ ⟨hR.1, ?_⟩) ⟨q_blind ad CA D _ h, hrecv, q_pre C0 (q_r k i :: As) hP⟩ rfl (by rw [List.length_map]; exact p5) hl.1 ?_ (lv_room (by rw [q_size_cat]; exact p6)) (hd _ _ p0) ⟨hR3, hR4⟩) hS hl
    · show 8 + (q_mL mi + 11) + 40 * d ≤ R.locals
      have := hR.2
      omega
    · show st.map (q_v ad) = _
      rw [p2, List.map_append, List.map_reverse]
      rfl
  · intro pc ls st h f mi kd As rest p0 p1 p2 p5 p6 kk H locs LS hP hS hl
    have hmi := q_den_lt kk
    have hm := q_look_mem _ _ _ _ p1
    obtain ⟨n1, n2, n3, n4, n5⟩ := q_mY_n mi hmi
    have hgw : ∀ w ∈ q_mthW ((oc, f), (mi, kd + 1)), w ∈ q_gw := fun w hw => q_in_gw _ q_mths_w q_mths_g _ (List.mem_flatMap.mpr ⟨_, hm, hw⟩)
    have hrl : 8 + (q_mL mi + 11) + 40 * d ≤ R.locals := by
      have := hR.2
      omega
    have hst : st.map (q_v ad) = (As.map (q_v ad)).reverse ++ rest.map (q_v ad) := by
      rw [p2, List.map_append, List.map_reverse]
    have hkd : kd = 0 ∨ kd = 1 := by
      have := (q_mths_n _ hm).2
      simp only at this
      omega
    rcases hkd with rfl | rfl
    · have hG : GoodIn q_gw (va_wsS (q_cN oc) f (q_mY mi) (q_mW mi)) := q_goodA (q_goodL hgw) (q_good hmi)
      exact q_after C0 (mi := mi) hmi (rest := rest) (va_runS (n := q_mA mi) (As := As.map (q_v ad)) ⟨hx, hb, hml, hown, hts⟩ (hM mi As h _ kk) (va_cwS (q_mA mi) hts hG rfl rfl rfl ⟨n3.1, n3.2, n4⟩ ⟨hR.1, hrl⟩) ⟨q_blind ad CA D _ h, q_pre C0 As hP⟩ rfl (by rw [List.length_map]; exact p5) hl.1 hst (lv_room (by rw [q_size_cat]; exact p6)) (hd _ _ p0) ⟨hR3, hR4⟩) hS hl
    · have hnl := hnw _ (q_nest_m _ hm rfl)
      have hst1 := hts _ (hgw _ (List.mem_of_getElem? (i := 0) rfl))
      have hin1 := hts _ (hgw _ (List.mem_of_getElem? (i := 1) rfl))
      exact q_after C0 (mi := mi) hmi (rest := rest) (va_runSN (n := q_mA mi) (As := As.map (q_v ad)) ⟨hx, hb, hml, hown, hts⟩ (hM mi As h _ kk) ⟨va_cnB (q_mA mi) hts (q_good hmi) rfl rfl rfl hnl hin1 ⟨n3.1, n3.2, n4⟩ ⟨hR.1, hrl⟩, hst1, trivial⟩ ⟨q_blind ad CA D _ h, q_pre C0 As hP⟩ rfl (by rw [List.length_map]; exact p5) hl.1 hst (lv_room (by rw [q_size_cat]; exact p6)) (hd _ _ p0) ⟨hR3, hR4⟩) hS hl
theorem q_sR (C : q_Ctx p R s m args c cc tab oc nL sc 0 0 ad CA D (q_A ad)) {mi : Nat} {Q : Option q_V → q_H → Prop} (hmi : mi < q_NM) (hr : meth.sig.returnType = q_mT mi) (hlocks : meth.locks = false) :
    q_cloR tab (q_mR mi) Q (q_X p l e R s m args below meth c nL 0 0 (MQ below (q_Qc ad CA D (q_mR mi) Q) args s 0 0 (q_A ad)) ad CA D (q_A ad)) := by
  obtain ⟨hx, hb, hml, hown, hts, hK, hd, hok, hA, hsc, hnw, hR1, hR2, hR3, hR4⟩ := C
  obtain ⟨t0, t1, t2, t3, -⟩ := q_mT_n mi hmi
  refine ⟨?_, ?_, ?_, ?_⟩
  · intro pc ls h p0 p1 kk H locs LS hP hS hl
    rw [t0 p1] at hr
    rw [p1]
    exact W.vret (Qc := q_Qc ad CA D 0 Q) hx hb hr (fun t ht hW => ⟨⟨h, rfl, kk, by unfold q_B; rw [ht]; exact hP⟩, hS.F ht⟩) hS.2.2 (hd _ _ p0)
  · intro pc ls h v p0 p1 kk H locs LS hP hS hl
    rw [t1 p1] at hr
    rw [p1]
    exact W.zret (Qc := q_Qc ad CA D 1 Q) hx hb hr rfl (fun t ht hW => ⟨⟨v, h, rfl, kk, by unfold q_B; rw [ht]; exact hP⟩, hS.F ht⟩) hS.2.2 (hd _ _ p0)
  · intro pc ls h v p0 p1 kk H locs LS hP hS hl
    rw [t2 p1] at hr
    rw [p1]
    exact W.lret (Qc := q_Qc ad CA D 2 Q) hx hb hr (fun t ht hW => ⟨⟨v, h, rfl, kk, by unfold q_B; rw [ht]; exact hP⟩, hS.F ht⟩) hS.2.2 (hd _ _ p0)
  · intro pc ls h v p0 p1 pv kk H locs LS hP hS hl
    rw [t3 p1] at hr
    rw [p1]
    have hn : narrow .boolean (.int v) = .int v := by rcases pv with rfl | rfl <;> rfl
    exact W.zret (Qc := q_Qc ad CA D 3 Q) hx hb hr hn (fun t ht hW => ⟨⟨v, h, rfl, kk, by unfold q_B; rw [ht]; exact hP⟩, hS.F ht⟩) hS.2.2 (hd _ _ p0)
end QT
/-- every method keeps what its denotation says -/
theorem q_sim (l : Launch) (ad : Nat → Nat → Nat) (CA : Nat → ClassId) (D : va_G) (hok : q_ok ad) : ∀ d, q_Mets l ad CA D d := by
  intro d
  induction d with
  | zero => intro mi as h Q k; exact k.elim
  | succ d ih =>
    intro mi as h Q k
    obtain ⟨hmi, hsz, hrun⟩ := k
    obtain ⟨n1, n2, n3, n4, n5⟩ := q_mY_n mi hmi
    refine Met.ofW (cc := q_mC mi) (maxL := q_mL mi) (ret := q_mT mi) n2 rfl ?_
    intro p e s m args below meth c s₁ B hml hv
    obtain ⟨rfl, hP, hK, hN⟩ := hv
    have hts := atoms_spec (ws := q_mW mi) B.pre
    have hown : s.vm.findClass (q_mY mi).cls = some m.cls := findClass_of_methodNamed B.named
    have C : q_Ctx p (headSpec (q_mW mi) (q_room (d + 1))).room s m (as.map (q_v ad)).toArray c (q_mC mi) (q_tab mi) (q_mO mi) (q_mL mi) none 0 0 ad CA D (q_A ad) :=
      ⟨B.exec, B.bytes, hml, by rw [← n1]; exact hown, fun w hw => hts w (List.mem_cons_of_mem _ hw), hK, q_tab_ok mi, hok, fun _ h => h, fun L xs h => (by cases h), hN, by show 1 ≤ d + 1; omega, by show 21 ≤ 40 * (d + 1); omega, Nat.le_refl 0, Nat.le_refl 0⟩
    have hl := lv_entry (as.map (q_v ad)) (n := q_mL mi) (by rw [q_size_sl]; exact hsz)
    rw [lg_entry_eq]
    rw [q_args_ls] at hl
    exact hrun (q_X p l e _ s m _ below meth c (q_mL mi) 0 0 (MQ below (q_Qc ad CA D (q_mR mi) Q) (as.map (q_v ad)).toArray s 0 0 (q_A ad)) ad CA D (q_A ad)) (q_sA C) (q_sC C ih ⟨Nat.le_refl _, by show 38 + 40 * d ≤ 40 * (d + 1); omega⟩) (q_sR C hmi B.returns B.notSynchronized) s.heap [] _ hP va_S.rf hl

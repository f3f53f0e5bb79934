/-! ===== from places to addresses: what a world of the abstract machine is on the heap ===== -/
def am_ad (α zs : Nat → Nat) (k : Nat) : Nat := if k < 1000 then α k else zs (k - 1000)
def am_c (α zs : Nat → Nat) (v : Value) : Value := match v with
  | .ref k => .ref (am_ad α zs k)
  | v => v
def am_cell (α zs κ : Nat → Nat) (F : Nat → Nat → Int32) (L : Nat → Nat → Int64) (p : Nat) (x : Nat × Nat × List (Option Nat)) : va_E :=
  if x.1 = 100 then .inl (κ 0, x.2.1, .inl (F p))
  else if x.1 = 101 then .inl (κ 1, x.2.1, .inr (.inl (L p)))
  else if x.1 = 102 then .inl (κ 2, x.2.1, .inr (.inr (.inr (.inr (fun i => (am_rf x.2.2 i).map (am_ad α zs))))))
  else .inr (x.1, (List.range (am_nf x.1)).map (fun k => am_c α zs (am_fv x.2.2 F p x.1 k)))
def am_ws (α zs κ : Nat → Nat) (h : am_H) : va_W := h.1.mapIdx (fun p x => (α p, am_cell α zs κ h.2.1 h.2.2 p x))
def am_al (α zs : Nat → Nat) (lv : am_LV) : List (Nat × Value) := lv.zipIdx.filterMap (fun x => x.1.map (fun v => (x.2, am_c α zs v)))
def am_tys (κ : Nat → Nat) : List (ClassId × FieldType) := [(κ 0, .int), (κ 1, .long), (κ 2, .object RX8)]
def am_wf (h : am_H) : Prop := h.1.length ≤ 1000 ∧ ∀ (p : Nat) (x : Nat × Nat × List (Option Nat)), h.1[p]? = some x → ∀ q, some q ∈ x.2.2 → q < h.1.length
def am_n (h : am_H) : Nat := h.1.length
def am_z (h : am_H) : Nat := (h.1.map (fun x => x.2.1)).sum
def am_isN (w : Jvm.Cond) : Bool := match w with
  | .fieldLinkNest .. => true
  | .methodLinkNest .. => true
  | _ => false
def am_Nst (s : State) : Prop := ∀ w ∈ lw_tbl, am_isN w = true → va_Nw w s
/-- the frame's surroundings: the machine, the tables' words, what nobody writes, the room for d frames more -/
def am_X (Z : am_Z) (D : va_G) (κ zs : Nat → Nat) (A : Nat → Prop) (p : Program) (R : Room) (s : State) (m : MethodId) (args : Array Value) (meth : Method) (c : Code) (d : Nat) (M : am_M) : Prop :=
  p.tables.exec = Jvm.exec ∧ c.code = M.2.2.1 ∧ c.maxLocals = M.2.2.2.1 ∧ s.vm.findClass (am_cn M.1) = some m.cls ∧ (∀ w ∈ am_tw, w.before args s = true) ∧ am_Nst s ∧ va_AO RX8 s ∧ (M.2.1.name = "<init>" → meth.name = "<init>") ∧ va_K D vwCl (am_tys κ) s ∧ (∀ q, s.heap.size ≤ q → A q) ∧
  (∀ (j : Nat) (z : Nat × (Nat → Int32)), j < 6 → Z j = some z → va_T .int (zs j) z.1 (fun i => .int (z.2 i)) A s s.heap) ∧ (∀ j, j < 5 → va_Z (am_sn j).1 (am_sn j).2.1 (am_sn j).2.2 (.ref (zs j)) A s s.heap) ∧ d ≤ R.frames ∧ 40 * d ≤ R.locals
def am_W (D : va_G) (κ zs α : Nat → Nat) (A : Nat → Prop) (s : State) (h : am_H) (H : Heap) (locs : List Loc) : Prop :=
  va_P D vwCl (am_ws α zs κ h) H ∧ va_D A (am_ws α zs κ h) ∧ va_S A s.heap H locs ∧ am_wf h
def am_has (α zs : Nat → Nat) (ls : Array Slot) (M : am_M) (lv : am_LV) : Prop := lv_has ls M.2.2.2.1 (am_al α zs lv) ∧ lv.length = M.2.2.2.1
theorem am_al_mem {α zs : Nat → Nat} {lv : am_LV} {q : Nat × Value} : q ∈ am_al α zs lv ↔ ∃ v, lv[q.1]? = some (some v) ∧ q.2 = am_c α zs v := by
  unfold am_al
  rw [List.mem_filterMap]
  constructor
  · rintro ⟨⟨o, i⟩, h1, h2⟩
    have h3 := List.mem_zipIdx_iff_getElem?.mp h1
    cases o with
    | none => simp at h2
    | some v =>
      simp at h2
      subst h2
      exact ⟨v, h3, rfl⟩
  · rintro ⟨v, h1, h2⟩
    refine ⟨(some v, q.1), List.mem_zipIdx_iff_getElem?.mpr h1, ?_⟩
    simp [← h2]
theorem am_has_at {α zs : Nat → Nat} {ls : Array Slot} {M : am_M} {lv : am_LV} {i : Nat} {v : Value} (h : am_has α zs ls M lv) (hv : lv[i]? = some (some v)) : ls[i]? = some (.val (am_c α zs v)) := h.1.2.2 (i, am_c α zs v) (am_al_mem.mpr ⟨v, hv, rfl⟩)
theorem am_c_cat (α zs : Nat → Nat) (v : Value) : (am_c α zs v).category = v.category := by cases v <;> rfl
theorem am_clr_get {lv : am_LV} {i j : Nat} {w : Value} (h : (am_clr lv i)[j]? = some (some w)) : lv[j]? = some (some w) ∧ ¬ (j + 1 = i ∧ w.category = 2) := by
  cases i with
  | zero => exact ⟨h, fun z => by omega⟩
  | succ k =>
    unfold am_clr at h
    dsimp only at h
    by_cases hjk : j = k
    · subst hjk
      split at h
      next v hv =>
        split at h
        next hc =>
          rw [List.getElem?_set] at h
          simp at h
        next hc =>
          rw [hv] at h
          cases h
          exact ⟨hv, fun z => hc z.2⟩
      next hn => exact absurd h (hn w)
    · refine ⟨?_, fun z => hjk (by omega)⟩
      split at h
      next v hv =>
        split at h
        · rw [List.getElem?_set_ne (fun z => hjk z.symm)] at h
          exact h
        · exact h
      next => exact h
theorem am_clr_len (lv : am_LV) (i : Nat) : (am_clr lv i).length = lv.length := by
  unfold am_clr
  split
  · rfl
  · split
    · split
      · exact List.length_set
      · rfl
    · rfl
theorem am_has_s1 {α zs : Nat → Nat} {ls' : Array Slot} {M : am_M} {lv : am_LV} {i : Nat} {v : Value} (hn : lv.length = M.2.2.2.1) (h : lv_has ls' M.2.2.2.1 ((i, am_c α zs v) :: (am_al α zs lv).filter (fun q => !(q.1 == i) && !(q.1 + 1 == i && q.2.category == 2)))) : am_has α zs ls' M (am_s1 lv i v) := by
  refine ⟨⟨h.1, h.2.1, fun q hq => h.2.2 q ?_⟩, by unfold am_s1; rw [List.length_set, am_clr_len]; exact hn⟩
  obtain ⟨w, h1, h2⟩ := am_al_mem.mp hq
  unfold am_s1 at h1
  by_cases hqi : q.1 = i
  · rw [hqi, List.getElem?_set] at h1
    simp at h1
    refine List.mem_cons.mpr (Or.inl ?_)
    obtain ⟨q1, q2⟩ := q
    dsimp only at hqi h2
    rw [hqi, h2, h1.2]
  · rw [List.getElem?_set_ne (fun z => hqi z.symm)] at h1
    obtain ⟨g1, g2⟩ := am_clr_get h1
    refine List.mem_cons.mpr (Or.inr (List.mem_filter.mpr ⟨am_al_mem.mpr ⟨w, g1, h2⟩, ?_⟩))
    rw [h2, am_c_cat]
    have e1 : (q.1 == i) = false := by simpa using hqi
    rw [e1]
    by_cases hz : q.1 + 1 = i
    · have : ¬ w.category = 2 := fun z => g2 ⟨hz, z⟩
      simp [this]
    · simp [hz]
theorem am_has_s2 {α zs : Nat → Nat} {ls' : Array Slot} {M : am_M} {lv : am_LV} {i : Nat} {v : Value} (hn : lv.length = M.2.2.2.1) (h : lv_has ls' M.2.2.2.1 ((i, am_c α zs v) :: (am_al α zs lv).filter (fun q => !(q.1 == i) && (!(q.1 == i + 1) && !(q.1 + 1 == i && q.2.category == 2))))) : am_has α zs ls' M (am_s2 lv i v) := by
  refine ⟨⟨h.1, h.2.1, fun q hq => h.2.2 q ?_⟩, by unfold am_s2; rw [List.length_set, List.length_set, am_clr_len]; exact hn⟩
  obtain ⟨w, h1, h2⟩ := am_al_mem.mp hq
  unfold am_s2 at h1
  by_cases hq2 : q.1 = i + 1
  · rw [hq2, List.getElem?_set] at h1
    simp at h1
  · rw [List.getElem?_set_ne (fun z => hq2 z.symm)] at h1
    by_cases hqi : q.1 = i
    · rw [hqi, List.getElem?_set] at h1
      simp at h1
      refine List.mem_cons.mpr (Or.inl ?_)
      obtain ⟨q1, q2⟩ := q
      dsimp only at hqi h2
      rw [hqi, h2, h1.2]
    · rw [List.getElem?_set_ne (fun z => hqi z.symm)] at h1
      obtain ⟨g1, g2⟩ := am_clr_get h1
      refine List.mem_cons.mpr (Or.inr (List.mem_filter.mpr ⟨am_al_mem.mpr ⟨w, g1, h2⟩, ?_⟩))
      rw [h2, am_c_cat]
      have e1 : (q.1 == i) = false := by simpa using hqi
      have e2 : (q.1 == i + 1) = false := by simpa using hq2
      rw [e1, e2]
      by_cases hz : q.1 + 1 = i
      · have : ¬ w.category = 2 := fun z => g2 ⟨hz, z⟩
        simp [this]
      · simp [hz]
theorem am_ws_get {α zs κ : Nat → Nat} {h : am_H} (p : Nat) : (am_ws α zs κ h)[p]? = (h.1[p]?).map (fun x => (α p, am_cell α zs κ h.2.1 h.2.2 p x)) := by
  unfold am_ws
  rw [List.getElem?_mapIdx]
theorem am_ws_at {α zs κ : Nat → Nat} {h : am_H} {p : Nat} {x : Nat × Nat × List (Option Nat)} (hp : h.1[p]? = some x) : (am_ws α zs κ h)[p]? = some (α p, am_cell α zs κ h.2.1 h.2.2 p x) := by rw [am_ws_get, hp]; rfl
theorem am_ws_upd {α zs κ : Nat → Nat} {h h' : am_H} {p : Nat} {x x' : Nat × Nat × List (Option Nat)} (hp : h.1[p]? = some x) (hS : ∀ q, h'.1[q]? = if q = p then some x' else h.1[q]?) (ho : ∀ q y, q ≠ p → am_cell α zs κ h'.2.1 h'.2.2 q y = am_cell α zs κ h.2.1 h.2.2 q y) :
    am_ws α zs κ h' = (am_ws α zs κ h).set p (α p, am_cell α zs κ h'.2.1 h'.2.2 p x') := by
  apply List.ext_getElem?
  intro q
  have hl : p < (am_ws α zs κ h).length := (List.getElem?_eq_some_iff.mp (am_ws_at (α := α) (zs := zs) (κ := κ) hp)).1
  rw [am_ws_get, hS q]
  by_cases e : q = p
  · subst e
    rw [if_pos rfl, List.getElem?_set_self hl]
    rfl
  · rw [if_neg e, List.getElem?_set_ne (fun z => e z.symm), am_ws_get]
    cases h.1[q]? with
    | none => rfl
    | some y =>
      show some (α q, am_cell α zs κ h'.2.1 h'.2.2 q y) = some (α q, am_cell α zs κ h.2.1 h.2.2 q y)
      rw [ho q y e]
theorem am_cell_congr {α zs κ : Nat → Nat} {F F' : Nat → Nat → Int32} {L L' : Nat → Nat → Int64} {p : Nat} {x : Nat × Nat × List (Option Nat)} (hF : F' p = F p) (hL : L' p = L p) : am_cell α zs κ F' L' p x = am_cell α zs κ F L p x := by
  simp only [am_cell, am_fv, hF, hL]
theorem am_map_set {n k : Nat} {g g' : Nat → Value} {v : Value} (hk : g' k = v) (ho : ∀ j, j ≠ k → g' j = g j) : (List.range n).map g' = ((List.range n).map g).set k v := by
  apply List.ext_getElem?
  intro j
  by_cases e : j = k
  · subst e
    by_cases hj : j < n
    · rw [List.getElem?_set_self (by simpa using hj)]
      simp [hj, hk]
    · rw [List.getElem?_eq_none (by simpa using Nat.not_lt.mp hj), List.getElem?_eq_none (by simpa using Nat.not_lt.mp hj)]
  · rw [List.getElem?_set_ne (fun z => e z.symm)]
    by_cases hj : j < n
    · simp [hj, ho j e]
    · rw [List.getElem?_eq_none (by simpa using Nat.not_lt.mp hj), List.getElem?_eq_none (by simpa using Nat.not_lt.mp hj)]
theorem am_cell_obj {α zs κ : Nat → Nat} {F : Nat → Nat → Int32} {L : Nat → Nat → Int64} {p ci n : Nat} {rs : List (Option Nat)} (h : ci < 13) : am_cell α zs κ F L p (ci, n, rs) = .inr (ci, (List.range (am_nf ci)).map (fun k => am_c α zs (am_fv rs F p ci k))) := by
  unfold am_cell
  rw [if_neg (show ¬ ci = 100 by omega), if_neg (show ¬ ci = 101 by omega), if_neg (show ¬ ci = 102 by omega)]
theorem am_cell_i {α zs κ : Nat → Nat} {F : Nat → Nat → Int32} {L : Nat → Nat → Int64} {p n : Nat} {rs : List (Option Nat)} : am_cell α zs κ F L p (100, n, rs) = .inl (κ 0, n, .inl (F p)) := rfl
theorem am_cell_l {α zs κ : Nat → Nat} {F : Nat → Nat → Int32} {L : Nat → Nat → Int64} {p n : Nat} {rs : List (Option Nat)} : am_cell α zs κ F L p (101, n, rs) = .inl (κ 1, n, .inr (.inl (L p))) := rfl
theorem am_cell_q {α zs κ : Nat → Nat} {F : Nat → Nat → Int32} {L : Nat → Nat → Int64} {p n : Nat} {rs : List (Option Nat)} : am_cell α zs κ F L p (102, n, rs) = .inl (κ 2, n, .inr (.inr (.inr (.inr (fun i => (am_rf rs i).map (am_ad α zs)))))) := rfl
theorem am_rf_set {rs : List (Option Nat)} {k q : Nat} (hk : k < rs.length) (j : Nat) : am_rf (rs.set k (some q)) j = if j = k then some q else am_rf rs j := by
  unfold am_rf
  by_cases e : j = k
  · subst e
    rw [List.getElem?_set_self hk, if_pos rfl]
  · rw [List.getElem?_set_ne (fun z => e z.symm), if_neg e]
theorem am_oob_in {i : Int32} {n : Nat} (h : am_oob i n = false) : vp_in i n := of_decide_eq_false h
theorem am_lt_c {α α' zs : Nat → Nat} {n : Nat} {v : Value} (ha : ∀ k, k < n → α' k = α k) (h : am_lt n v = true) : am_c α' zs v = am_c α zs v := by
  cases v with
  | ref q =>
    show Value.ref _ = Value.ref _
    simp only [am_lt, Bool.or_eq_true, decide_eq_true_eq] at h
    unfold am_ad
    by_cases hq : q < 1000
    · rw [if_pos hq, if_pos hq]
      exact h.elim (fun z => congrArg Value.ref (ha q z)) (fun z => absurd hq (Nat.not_lt.mpr z))
    · rw [if_neg hq, if_neg hq]
  | _ => rfl
theorem am_fmc {α β : Type} {f g : α → Option β} : ∀ {l : List α}, (∀ x ∈ l, f x = g x) → l.filterMap f = l.filterMap g
  | [], _ => rfl
  | a :: l, h => by
    rw [List.filterMap_cons, List.filterMap_cons, h a List.mem_cons_self, am_fmc (fun x hx => h x (List.mem_cons_of_mem _ hx))]
theorem am_fresh_c {α α' zs : Nat → Nat} {n : Nat} {lv : am_LV} {st : List Value} (ha : ∀ k, k < n → α' k = α k) (h : am_fresh n lv st = true) : am_al α' zs lv = am_al α zs lv ∧ st.map (am_c α' zs) = st.map (am_c α zs) := by
  unfold am_fresh at h
  rw [Bool.and_eq_true, List.all_eq_true, List.all_eq_true] at h
  refine ⟨?_, List.map_congr_left fun v hv => am_lt_c ha (h.2 v hv)⟩
  unfold am_al
  refine am_fmc fun x hx => ?_
  have hm : x.1 ∈ lv := List.fst_mem_of_mem_zipIdx hx
  have h1 := h.1 _ hm
  cases hx1 : x.1 with
  | none => rfl
  | some v =>
    rw [hx1] at h1
    show some (x.2, am_c α' zs v) = some (x.2, am_c α zs v)
    rw [am_lt_c ha h1]
theorem am_cell_new {α α' zs κ : Nat → Nat} {F : Nat → Nat → Int32} {L : Nat → Nat → Int64} {n p : Nat} {x : Nat × Nat × List (Option Nat)} (hn : n ≤ 1000) (ha : ∀ k, k < n → α' k = α k) (hx : ∀ q, some q ∈ x.2.2 → q < n) : am_cell α' zs κ F L p x = am_cell α zs κ F L p x := by
  have hr : ∀ i, (am_rf x.2.2 i).map (am_ad α' zs) = (am_rf x.2.2 i).map (am_ad α zs) := by
    intro i
    unfold am_rf
    split
    next q hq =>
      have h1 := hx q (List.mem_of_getElem? hq)
      show some _ = some _
      unfold am_ad
      rw [if_pos (by omega), if_pos (by omega), ha q h1]
    next => rfl
  have hv : ∀ i, am_c α' zs (va_rf (am_rf x.2.2 i)) = am_c α zs (va_rf (am_rf x.2.2 i)) := by
    intro i
    have h1 := hr i
    cases e : am_rf x.2.2 i with
    | none => rfl
    | some q =>
      rw [e] at h1
      show Value.ref _ = Value.ref _
      exact congrArg Value.ref (Option.some.inj h1)
  unfold am_cell
  split
  · rfl
  split
  · rfl
  split
  · simp only [hr]
  · congr 2
    apply List.map_congr_left
    intro k hk
    unfold am_fv
    split
    · exact hv k
    · rfl
theorem am_ws_push {α zs κ : Nat → Nat} {h : am_H} {q kd n : Nat} {rs : List (Option Nat)} (hw : am_wf h) : am_ws (fun k => if k = h.1.length then q else α k) zs κ (am_push h kd n rs) = am_ws α zs κ h ++ [(q, am_cell (fun k => if k = h.1.length then q else α k) zs κ (am_push h kd n rs).2.1 (am_push h kd n rs).2.2 h.1.length (kd, n, rs))] := by
  apply List.ext_getElem?
  intro j
  have hl : (am_ws α zs κ h).length = h.1.length := by unfold am_ws; exact List.length_mapIdx
  rw [am_ws_get]
  by_cases hj : j < h.1.length
  · rw [List.getElem?_append_left (by rw [hl]; exact hj), am_ws_get]
    show ((h.1 ++ [(kd, n, rs)])[j]?).map _ = _
    rw [List.getElem?_append_left hj]
    cases e : h.1[j]? with
    | none => rfl
    | some x =>
      show some _ = some _
      have hne : ¬ j = h.1.length := by omega
      congr 1
      refine Prod.ext ?_ ?_
      · show (if j = h.1.length then q else α j) = α j
        rw [if_neg hne]
      · show am_cell _ zs κ _ _ j x = am_cell α zs κ h.2.1 h.2.2 j x
        rw [am_cell_congr (F' := (am_push h kd n rs).2.1) (F := h.2.1) (L' := (am_push h kd n rs).2.2) (L := h.2.2) (by show (if j = h.1.length then _ else h.2.1 j) = _; rw [if_neg hne]) (by show (if j = h.1.length then _ else h.2.2 j) = _; rw [if_neg hne])]
        exact am_cell_new hw.1 (fun k hk => if_neg (by omega)) (hw.2 j x e)
  · show ((h.1 ++ [(kd, n, rs)])[j]?).map _ = _
    by_cases he : j = h.1.length
    · subst he
      rw [List.getElem?_append_right (Nat.le_refl _), List.getElem?_append_right (by rw [hl]; exact Nat.le_refl _), hl, Nat.sub_self]
      show some _ = some _
      rw [show (if h.1.length = h.1.length then q else α h.1.length) = q from if_pos rfl]
    · rw [List.getElem?_eq_none (by simp; omega), List.getElem?_eq_none (by simp [hl]; omega)]
      rfl
theorem am_wf_push {h : am_H} {kd n : Nat} {rs : List (Option Nat)} (hw : am_wf h) (hl : h.1.length < 1000) (hr : ∀ q, ¬ some q ∈ rs) : am_wf (am_push h kd n rs) := by
  refine ⟨by show (h.1 ++ [(kd, n, rs)]).length ≤ 1000; simp; omega, fun p x hp q hq => ?_⟩
  have hlen : (am_push h kd n rs).1.length = h.1.length + 1 := by show (h.1 ++ [(kd, n, rs)]).length = _; simp
  rw [hlen]
  have hp2 : (h.1 ++ [(kd, n, rs)])[p]? = some x := hp
  by_cases hpl : p < h.1.length
  · rw [List.getElem?_append_left hpl] at hp2
    have := hw.2 p x hp2 q hq
    omega
  · rw [List.getElem?_append_right (by omega)] at hp2
    have hz : p - h.1.length < 1 := (List.getElem?_eq_some_iff.mp hp2).1
    rw [show p - h.1.length = 0 by omega] at hp2
    cases hp2
    exact absurd hq (hr q)
theorem am_wf_set {h : am_H} {F : Nat → Nat → Int32} {L : Nat → Nat → Int64} {p kd kd' n n' k q : Nat} {rs : List (Option Nat)} (hw : am_wf h) (hp : h.1[p]? = some (kd, n, rs)) (hq : q < h.1.length) : am_wf (h.1.set p (kd', n', rs.set k (some q)), F, L) := by
  refine ⟨by show (h.1.set p _).length ≤ 1000; rw [List.length_set]; exact hw.1, fun j x hj r hr => ?_⟩
  show r < (h.1.set p _).length
  rw [List.length_set]
  have hj2 : (h.1.set p (kd', n', rs.set k (some q)))[j]? = some x := hj
  by_cases e : j = p
  · subst e
    rw [List.getElem?_set_self (List.getElem?_eq_some_iff.mp hp).1] at hj2
    cases hj2
    rcases List.mem_or_eq_of_mem_set hr with h1 | h1
    · exact hw.2 j _ hp r h1
    · cases h1; exact hq
  · rw [List.getElem?_set_ne (fun z => e z.symm)] at hj2
    exact hw.2 j x hj2 r hr
theorem am_wf_F {h : am_H} {F : Nat → Nat → Int32} {L : Nat → Nat → Int64} (hw : am_wf h) : am_wf (h.1, F, L) := hw
theorem am_z_set {S : am_S} {p kd kd' n : Nat} {rs rs' : List (Option Nat)} (hp : S[p]? = some (kd, n, rs)) : ((S.set p (kd', n, rs')).map (fun x => x.2.1)).sum = (S.map (fun x => x.2.1)).sum := by
  have hl := (List.getElem?_eq_some_iff.mp hp).1
  have he : (S.set p (kd', n, rs')).map (fun x => x.2.1) = S.map (fun x => x.2.1) := by
    rw [List.map_set]
    apply List.ext_getElem?
    intro j
    by_cases e : j = p
    · subst e
      rw [List.getElem?_set_self (by simpa using hl), List.getElem?_map, hp]
      rfl
    · rw [List.getElem?_set_ne (fun z => e z.symm)]
  rw [he]

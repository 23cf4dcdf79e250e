/-! ===== core 2: what an abstract heap is on the machine ===== -/
def wsG : List Cond := lw_tbl.filter goodWord
theorem qmem {w : Cond} (i : Nat) (h : lw_tbl[i]? = some w) (g : goodWord w = true) : w ∈ wsG := List.mem_filter.mpr ⟨List.mem_of_getElem? h, g⟩
theorem qmems {ws : List Cond} (is : List Nat) (h : ws = is.filterMap (fun i => lw_tbl[i]?)) (g : ws.all goodWord = true) : ∀ w ∈ ws, w ∈ wsG := by
  intro w hw
  refine List.mem_filter.mpr ⟨?_, List.all_eq_true.mp g w hw⟩
  rw [h] at hw
  obtain ⟨i, -, hi⟩ := List.mem_filterMap.mp hw
  exact List.mem_of_getElem? hi
theorem qgood : GoodIn wsG wsG := fun w hw => ⟨hw, good_of_word (List.mem_filter.mp hw).2⟩
def qad (sz b k : Nat) : Nat := if k = qSCR then b else sz + k
def qmv (sz b : Nat) (v : Value) : Value := match v with
  | .ref k => .ref (qad sz b k)
  | v => v
theorem qmv_cat (sz b : Nat) (v : Value) : (qmv sz b v).category = v.category := by cases v <;> rfl
theorem qok_cat {v : Value} : qok v = true ↔ v.category = 1 := by cases v <;> simp [qok, Value.category]
theorem qok_cat2 {v : Value} : qok v = false ↔ v.category = 2 := by cases v <;> simp [qok, Value.category]
def qfv (sz b : Nat) (h : Nat → Int32) (k : Nat) (f : qF) : Value := match f with
  | none => .int (h k)
  | some none => .null
  | some (some p) => .ref (qad sz b p)
theorem qmv_fa (sz b : Nat) (h : Nat → Nat → Int32) (o k : Nat) (f : qF) : qmv sz b (qfa h o k f) = qfv sz b (h o) k f := by
  rcases f with _ | _ | p <;> rfl
abbrev qI : Type := ClassId × ClassId × ClassId
def qce (ids : qI) (sz b : Nat) (h : Nat → Int32) (s : qS) : va_E := match s with
  | .inl (ci, fs) => .inr (ci, fs.mapIdx (fun k f => qfv sz b h k f))
  | .inr (.inl n) => .inl (ids.1, (n, .inl h))
  | .inr (.inr (t, n, rs)) => .inl ((if t = 0 then ids.2.1 else ids.2.2), (n, .inr (.inr (.inr (.inr (fun j => (rs.getD j none).map (qad sz b)))))))
def qws (ids : qI) (sz b : Nat) (hp : qH) : va_W := hp.1.mapIdx (fun k s => (sz + k, qce ids sz b (hp.2 k) s))
def qtys (ids : qI) : List (ClassId × FieldType) := [(ids.1, .int), (ids.2.1, .object RX0), (ids.2.2, .object RX2)]
def qHR (D : va_G) (ids : qI) (sz b : Nat) (hp : qH) (H : Heap) : Prop := va_P D vwCl (qws ids sz b hp) H ∧ hp.1.length ≤ qSCR
def qA (sz : Nat) : Nat → Prop := fun q => sz ≤ q
theorem qws_get {ids : qI} {sz b : Nat} {hp : qH} {o : Nat} {s : qS} (h : hp.1[o]? = some s) : (qws ids sz b hp)[o]? = some (sz + o, qce ids sz b (hp.2 o) s) := by
  unfold qws
  rw [List.getElem?_mapIdx, h]
  rfl
theorem qws_inv {ids : qI} {sz b : Nat} {hp : qH} {o : Nat} {q : Nat × va_E} (h : (qws ids sz b hp)[o]? = some q) : q.1 = sz + o := by
  unfold qws at h
  rw [List.getElem?_mapIdx] at h
  cases hs : hp.1[o]? with
  | none => rw [hs] at h; cases h
  | some s => rw [hs] at h; cases h; rfl
theorem qD (ids : qI) (sz b : Nat) (hp : qH) : va_D (qA sz) (qws ids sz b hp) := by
  refine ⟨fun i j p q hi hj hpq => ?_, fun k q hk => ?_⟩
  · have h1 := qws_inv hi
    have h2 := qws_inv hj
    omega
  · have h1 := qws_inv hk
    show sz ≤ q.1
    omega
theorem qad_lt {sz b k : Nat} {sh : List qS} {s : qS} (h : sh[k]? = some s) (hl : sh.length ≤ qSCR) : qad sz b k = sz + k := by
  have h1 := (List.getElem?_eq_some_iff.mp h).1
  unfold qad
  rw [if_neg (by omega)]
/-- writing a number -/
theorem qws_up {ids : qI} {sz b : Nat} {hp : qH} {o : Nat} {s : qS} (k : Nat) (v : Int32) (h : hp.1[o]? = some s) :
    qws ids sz b (hp.1, qup hp.2 o k v) = (qws ids sz b hp).set o (sz + o, qce ids sz b (upd (hp.2 o) k v) s) := by
  apply List.ext_getElem?
  intro i
  unfold qws
  rw [List.getElem?_set, List.getElem?_mapIdx, List.getElem?_mapIdx]
  have hl := (List.getElem?_eq_some_iff.mp h).1
  by_cases hi : o = i
  · subst hi
    rw [if_pos rfl, if_pos (by simpa using hl), h]
    simp only [Option.map_some]
    congr 3
    funext j
    simp [qup, upd]
  · rw [if_neg hi]
    congr 1
    funext s'
    congr 2
    funext j
    simp [qup, Ne.symm hi]
theorem qws_row {ids : qI} {sz b : Nat} {hp : qH} {o : Nat} {s : qS} (f : Nat → Int32) (h : hp.1[o]? = some s) :
    qws ids sz b (hp.1, qrow hp.2 o f) = (qws ids sz b hp).set o (sz + o, qce ids sz b f s) := by
  apply List.ext_getElem?
  intro i
  unfold qws
  rw [List.getElem?_set, List.getElem?_mapIdx, List.getElem?_mapIdx]
  have hl := (List.getElem?_eq_some_iff.mp h).1
  by_cases hi : o = i
  · subst hi
    rw [if_pos rfl, if_pos (by simpa using hl), h]
    simp only [Option.map_some]
    congr 3
    funext j
    simp [qrow]
  · rw [if_neg hi]
    congr 1
    funext s'
    congr 2
    funext j
    simp [qrow, Ne.symm hi]
theorem qws_sh {ids : qI} {sz b : Nat} {hp : qH} {o : Nat} (s : qS) (h : o < hp.1.length) :
    qws ids sz b (hp.1.set o s, hp.2) = (qws ids sz b hp).set o (sz + o, qce ids sz b (hp.2 o) s) := by
  apply List.ext_getElem?
  intro i
  unfold qws
  rw [List.getElem?_set, List.getElem?_mapIdx, List.getElem?_mapIdx, List.getElem?_set]
  by_cases hi : o = i
  · subst hi
    rw [if_pos rfl, if_pos rfl, if_pos h, if_pos (by simpa using h)]
    rfl
  · rw [if_neg hi, if_neg hi]
theorem qws_new {ids : qI} {sz b : Nat} {hp : qH} (s : qS) (h2 : Nat → Nat → Int32) (he : ∀ o k, o < hp.1.length → h2 o k = hp.2 o k) :
    qws ids sz b (hp.1 ++ [s], h2) = qws ids sz b hp ++ [(sz + hp.1.length, qce ids sz b (h2 hp.1.length) s)] := by
  apply List.ext_getElem?
  intro i
  unfold qws
  rw [List.getElem?_mapIdx]
  by_cases hi : i < hp.1.length
  · rw [List.getElem?_append_left hi, List.getElem?_append_left (by simpa using hi), List.getElem?_mapIdx]
    have : h2 i = hp.2 i := funext fun k => he i k hi
    show Option.map (fun s_1 => (sz + i, qce ids sz b (h2 i) s_1)) _ = _
    rw [this]
  · by_cases hj : i = hp.1.length
    · subst hj
      rw [List.getElem?_append_right (Nat.le_refl _), List.getElem?_append_right (by simp)]
      simp
    · rw [List.getElem?_eq_none (by simp; omega), List.getElem?_eq_none (by simp; omega)]
      rfl
theorem qmapIdx_set {α β : Type} (f : Nat → α → β) (l : List α) (k : Nat) (v : α) : (l.set k v).mapIdx f = (l.mapIdx f).set k (f k v) := by
  apply List.ext_getElem?
  intro i
  rw [List.getElem?_set, List.getElem?_mapIdx, List.getElem?_mapIdx, List.getElem?_set]
  by_cases hi : k = i
  · subst hi
    by_cases hl : k < l.length
    · rw [if_pos rfl, if_pos rfl, if_pos hl, if_pos (by simpa using hl)]
      rfl
    · rw [if_pos rfl, if_pos rfl, if_neg hl, if_neg (by simpa using hl)]
      rfl
  · rw [if_neg hi, if_neg hi]
theorem qce_upd {ids : qI} {sz b : Nat} {h : Nat → Int32} {ci k : Nat} {v : Int32} {fs : List qF} (hf : fs[k]? = some none) :
    qce ids sz b (upd h k v) (.inl (ci, fs)) = .inr (ci, (fs.mapIdx (fun j f => qfv sz b h j f)).set k (.int v)) := by
  show Sum.inr (ci, fs.mapIdx (fun j f => qfv sz b (upd h k v) j f)) = _
  congr 2
  apply List.ext_getElem?
  intro i
  have hl := (List.getElem?_eq_some_iff.mp hf).1
  rw [List.getElem?_set, List.getElem?_mapIdx, List.getElem?_mapIdx]
  by_cases hi : k = i
  · subst hi
    rw [if_pos rfl, if_pos (by simpa using hl), hf]
    simp [qfv, upd]
  · rw [if_neg hi]
    congr 1
    funext f
    rcases f with _ | _ | p <;> simp [qfv, upd, Ne.symm hi]
/-! locals -/
def qAs (sz b : Nat) (pl : List Value) : List (Nat × Value) := (List.range pl.length).filterMap (fun i => match pl[i]? with
  | some v => if v = qU then none else some (i, qmv sz b v)
  | none => none)
theorem qAs_mem {sz b : Nat} {pl : List Value} {q : Nat × Value} : q ∈ qAs sz b pl ↔ ∃ v, pl[q.1]? = some v ∧ v ≠ qU ∧ q.2 = qmv sz b v := by
  unfold qAs
  rw [List.mem_filterMap]
  constructor
  · rintro ⟨i, -, h⟩
    cases hp : pl[i]? with
    | none => rw [hp] at h; cases h
    | some v =>
      rw [hp] at h
      dsimp only at h
      by_cases hv : v = qU
      · rw [if_pos hv] at h; cases h
      · rw [if_neg hv] at h
        cases h
        exact ⟨v, hp, hv, rfl⟩
  · rintro ⟨v, h1, h2, h3⟩
    refine ⟨q.1, List.mem_range.mpr (List.getElem?_eq_some_iff.mp h1).1, ?_⟩
    rw [h1]
    dsimp only
    rw [if_neg h2, ← h3]
def qLV (sz b : Nat) (lsA : Array Slot) (ml : Nat) (pl : List Value) : Prop := lv_has lsA ml (qAs sz b pl) ∧ pl.length = ml
theorem qLV.at {sz b : Nat} {lsA : Array Slot} {ml : Nat} {pl : List Value} (h : qLV sz b lsA ml pl) {i : Nat} {v : Value} (hv : pl[i]? = some v) (hu : v ≠ qU) : lsA[i]? = some (.val (qmv sz b v)) :=
  h.1.2.2 (i, qmv sz b v) (qAs_mem.mpr ⟨v, hv, hu, rfl⟩)
theorem qLV.st {sz b : Nat} {lsA lsB : Array Slot} {ml : Nat} {pl : List Value} (h : qLV sz b lsA ml pl) {i : Nat} {v : Value} (hp : qpre pl i = true)
    (hs : lv_has lsB ml ((i, qmv sz b v) :: (qAs sz b pl).filter (fun q => !(q.1 == i) && !(q.1 + 1 == i && q.2.category == 2)))) : qLV sz b lsB ml (pl.set i v) := by
  refine ⟨⟨hs.1, hs.2.1, fun q hq => ?_⟩, by rw [List.length_set]; exact h.2⟩
  obtain ⟨w, hw, hu, e⟩ := qAs_mem.mp hq
  by_cases hqi : i = q.1
  · subst hqi
    have hl := (List.getElem?_eq_some_iff.mp hw).1
    rw [List.length_set] at hl
    rw [List.getElem?_set_self hl] at hw
    cases hw
    have := hs.2.2 (q.1, qmv sz b v) List.mem_cons_self
    rw [e]
    exact this
  · rw [List.getElem?_set_ne hqi] at hw
    refine hs.2.2 q (List.mem_cons_of_mem _ (List.mem_filter.mpr ⟨qAs_mem.mpr ⟨w, hw, hu, e⟩, ?_⟩))
    have h1 : (q.1 == i) = false := by simpa using Ne.symm hqi
    rw [h1]
    by_cases h2 : q.1 + 1 = i
    · subst h2
      unfold qpre at hp
      dsimp only at hp
      rw [hw] at hp
      dsimp only at hp
      have h3 := qok_cat.mp hp
      rw [e, qmv_cat, h3]
      simp
    · simp [h2]
theorem qdrp_len : ∀ (mask : List Bool) (pl : List Value), (qdrp mask pl).length = pl.length
  | [], l => rfl
  | _ :: _, [] => rfl
  | b :: bs, v :: l => by simp [qdrp, qdrp_len bs l]
theorem qdrp_get : ∀ (mask : List Bool) (pl : List Value) (i : Nat) (v : Value), (qdrp mask pl)[i]? = some v → v ≠ qU → pl[i]? = some v
  | [], l, i, v, h, _ => h
  | _ :: _, [], i, v, h, _ => by simp [qdrp] at h
  | b :: bs, w :: l, 0, v, h, hu => by
    cases b
    · simp [qdrp] at h
      exact absurd h.symm hu
    · simpa [qdrp] using h
  | b :: bs, w :: l, i + 1, v, h, hu => by
    simp only [qdrp, List.getElem?_cons_succ] at h ⊢
    exact qdrp_get bs l i v h hu
theorem qLV.drop {sz b : Nat} {lsA : Array Slot} {ml : Nat} {pl : List Value} (h : qLV sz b lsA ml pl) (mask : List Bool) : qLV sz b lsA ml (qdrp mask pl) := by
  refine ⟨⟨h.1.1, h.1.2.1, fun q hq => ?_⟩, by rw [qdrp_len]; exact h.2⟩
  obtain ⟨v, hv, hu, e⟩ := qAs_mem.mp hq
  exact h.1.2.2 q (qAs_mem.mpr ⟨v, qdrp_get _ _ _ _ hv hu, hu, e⟩)
theorem qEnt_args {sz b : Nat} : ∀ (as : List Value) (off i : Nat) (v : Value), (qEnt as)[i]? = some v → v ≠ qU → (off + i, qmv sz b v) ∈ lv_args off (as.map (qmv sz b))
  | [], off, i, v, h, _ => by simp [qEnt] at h
  | a :: as, off, i, v, h, hu => by
    have he : qEnt (a :: as) = (match qok a with | true => [a] | false => [a, qU]) ++ qEnt as := rfl
    rw [he] at h
    show _ ∈ (off, qmv sz b a) :: lv_args (if (qmv sz b a).category = 2 then off + 2 else off + 1) (as.map (qmv sz b))
    rw [qmv_cat]
    cases hk : qok a with
    | true =>
      rw [hk] at h
      rw [if_neg (by rw [qok_cat.mp hk]; decide)]
      cases i with
      | zero => simp at h; subst h; exact List.mem_cons_self
      | succ j =>
        simp only [List.singleton_append, List.getElem?_cons_succ] at h
        have := qEnt_args (sz := sz) (b := b) as (off + 1) j v h hu
        rw [show off + 1 + j = off + (j + 1) by omega] at this
        exact List.mem_cons_of_mem _ this
    | false =>
      rw [hk] at h
      rw [if_pos (qok_cat2.mp hk)]
      match i, h with
      | 0, h => simp at h; subst h; exact List.mem_cons_self
      | 1, h => simp at h; exact absurd h.symm hu
      | j + 2, h =>
        simp only [List.cons_append, List.nil_append, List.getElem?_cons_succ] at h
        have := qEnt_args (sz := sz) (b := b) as (off + 2) j v h hu
        rw [show off + 2 + j = off + (j + 2) by omega] at this
        exact List.mem_cons_of_mem _ this
theorem qEnt_len {sz b : Nat} (as : List Value) : (lg_sl (as.map (qmv sz b))).length = (qEnt as).length := by
  induction as with
  | nil => rfl
  | cons a as ih =>
    have he : qEnt (a :: as) = (match qok a with | true => [a] | false => [a, qU]) ++ qEnt as := rfl
    have h2 : lg_sl ((a :: as).map (qmv sz b)) = (if (qmv sz b a).category = 2 then [.val (qmv sz b a), .second] else [.val (qmv sz b a)]) ++ lg_sl (as.map (qmv sz b)) := rfl
    rw [he, h2, List.length_append, List.length_append, ih, qmv_cat]
    cases hk : qok a with
    | true => rw [if_neg (by rw [qok_cat.mp hk]; decide)]; rfl
    | false => rw [if_pos (qok_cat2.mp hk)]; rfl
theorem qLV.entry {sz b ml : Nat} (as : List Value) (hl : (qEnt as).length ≤ ml) :
    qLV sz b ((lg_sl (as.map (qmv sz b)) ++ List.replicate (ml - (lg_sl (as.map (qmv sz b))).length) Slot.unset).toArray) ml (qEn ml as) := by
  have h := lv_entry (as.map (qmv sz b)) (n := ml) (by rw [qEnt_len]; exact hl)
  refine ⟨⟨h.1, h.2.1, fun q hq => ?_⟩, by unfold qEn; simp; omega⟩
  obtain ⟨v, hv, hu, e⟩ := qAs_mem.mp hq
  refine h.2.2 q ?_
  have hin : (qEnt as)[q.1]? = some v := by
    unfold qEn at hv
    by_cases hi : q.1 < (qEnt as).length
    · rwa [List.getElem?_append_left hi] at hv
    · rw [List.getElem?_append_right (by omega)] at hv
      have h2 := List.mem_of_getElem? hv
      exact absurd (List.eq_of_mem_replicate h2) hu
  have h3 := qEnt_args (sz := sz) (b := b) as 0 q.1 v hin hu
  rw [Nat.zero_add, ← e] at h3
  exact h3

/-! ===== core 4: fields, rows, new cells, calls, returns ===== -/
section OK4
variable {mt : List qM} {cc : ByteArray} {own : String} {ml : Nat} {rt : Option FieldType} {ini : Bool} {mc ms : Nat} {scr : Option (Nat × (Nat → Int32))} {pc : Nat}
theorem qW_sz {p : Program} {l : Launch} {e : Env} {R : Room} {s : State} {m : MethodId} {args : Array Value} {below : List Frame} {meth : Method} {c : Code} {H : Heap} {locs : List Loc} {cells slots : Nat} {Q : State → Prop} {g : JFrame}
    (kk : H.size ≤ s.heap.size + cells → W p l e R s m args below meth c H locs cells slots Q g) : W p l e R s m args below meth c H locs cells slots Q g :=
  fun T hT X => kk (by rw [← hT]; exact X.same.2.2.1) T hT X
theorem qHR_lo {D : va_G} {ids : qI} {sz b : Nat} {hp : qH} {H : Heap} {s : State} {locs : List Loc} (h : qHR D ids sz b hp H) (hS : va_S (qA sz) s.heap H locs) (hsz : sz ≤ s.heap.size) : sz + hp.1.length ≤ H.size := by
  by_cases h0 : hp.1.length = 0
  · have := hS.1
    omega
  · have h1 : hp.1.length - 1 < hp.1.length := by omega
    have h2 := (h.1 _ _ (qws_get (ids := ids) (sz := sz) (b := b) (hp := hp) (List.getElem?_eq_getElem h1))).lt
    dsimp only at h2
    omega
theorem qrefF {m : MethodId} {pc : Nat} {lsA : Array Slot} {sz b o : Nat} {st : List Value} (h : qad sz b o = sz + o) : F0 m pc lsA ((Value.ref o :: st).map (qmv sz b)) = F0 m pc lsA (.ref (sz + o) :: st.map (qmv sz b)) := by
  rw [← h]
  rfl
theorem qrefF1 {m : MethodId} {pc : Nat} {lsA : Array Slot} {sz b o : Nat} {v : Value} {st : List Value} (h : qad sz b o = sz + o) : F0 m pc lsA ((v :: Value.ref o :: st).map (qmv sz b)) = F0 m pc lsA (qmv sz b v :: .ref (sz + o) :: st.map (qmv sz b)) := by
  rw [← h]
  rfl
theorem qrefF2 {m : MethodId} {pc : Nat} {lsA : Array Slot} {sz b o : Nat} {v w : Value} {st : List Value} (h : qad sz b o = sz + o) : F0 m pc lsA ((w :: v :: Value.ref o :: st).map (qmv sz b)) = F0 m pc lsA (qmv sz b w :: qmv sz b v :: .ref (sz + o) :: st.map (qmv sz b)) := by
  rw [← h]
  rfl
theorem ok_get {ci k idx N : Nat} {C : String} {T : u_T} (hd : decode cc pc = .ok (.getfield idx, 3)) (hc : vwCl[ci]? = some (C, T, N)) (hin : ∀ w ∈ u_ws C T N, w ∈ wsG) (hk : k < N) (hw : Cond.fieldLink own idx (T k).1 (T k).2.1 (T k).2.2.1 ∈ wsG) :
    OpOK mt cc own ml rt ini mc ms scr pc (oGet ci k (pc + 3)) := by
  rintro p l e R s m args below meth c D ids sz b d Q ⟨hx, hb, hml, hown, hts, hX, hsz, hlk, hrt, hini⟩ hR hscr ⟨pc0, ls, st, hp, kc, ks⟩ o hpc ho
  cases hpc
  unfold oGet at ho
  split at ho
  · rename_i pc1 ls1 o1 st1 hp1 r1 heq
    cases heq
    split at ho
    · rename_i cj fs hsh
      split at ho
      · rename_i f hcj hf
        cases ho
        have hcj := of_decide_eq_true hcj
        subst hcj
        intro hkk H locs lsA hz hH hS hL
        refine W.eq (qrefF (qad_lt hsh hH.2)) ?_
        have hkk := hkk H locs lsA hz hH hS hL
        dsimp only at hkk
        rw [List.map_cons, qmv_fa] at hkk
        exact va_get (ref := (T k).1) hx hb hts hin hown hX.1 hH.1 o1 (qws_get hsh) hc k hk (hts _ hw) (fun _ h => h) (by rw [List.getElem?_mapIdx, hf]; rfl) hd hkk
      · cases ho
    · cases ho
  · cases ho
theorem oPutI_inv {ci k n : Nat} {x : qC} {o : qC ⊕ (qQ ⊕ (Option Value × qC))} (h : oPutI ci k n x = some o) : ∃ (v : Int32) (a : Nat) (st : List Value) (fs : List qF), x.2.2.1 = .int v :: .ref a :: st ∧ x.2.2.2.1.1[a]? = some (.inl (ci, fs)) ∧ fs[k]? = some none ∧
    o = .inl (n, x.2.1, st, (x.2.2.2.1.1, qup x.2.2.2.1.2 a k v), x.2.2.2.2) := by
  obtain ⟨pc0, ls, st, hp, r⟩ := x
  unfold oPutI at h
  split at h
  · rename_i heq
    cases heq
    split at h
    · rename_i hsh
      split at h
      · rename_i hcj hf
        cases h
        have hcj := of_decide_eq_true hcj
        subst hcj
        exact ⟨_, _, _, _, rfl, hsh, hf, rfl⟩
      · cases h
    · cases h
  · cases h
theorem oPutZ_inv {ci k n : Nat} {x : qC} {o : qC ⊕ (qQ ⊕ (Option Value × qC))} (h : oPutZ ci k n x = some o) : ∃ (v : Int32) (a : Nat) (st : List Value) (fs : List qF), x.2.2.1 = .int v :: .ref a :: st ∧ x.2.2.2.1.1[a]? = some (.inl (ci, fs)) ∧ fs[k]? = some none ∧
    (v = 0 ∨ v = 1) ∧ o = .inl (n, x.2.1, st, (x.2.2.2.1.1, qup x.2.2.2.1.2 a k v), x.2.2.2.2) := by
  obtain ⟨pc0, ls, st, hp, r⟩ := x
  unfold oPutZ at h
  split at h
  · rename_i heq
    cases heq
    split at h
    · rename_i hv
      split at h
      · rename_i hsh
        split at h
        · rename_i hcj hf
          cases h
          have hcj := of_decide_eq_true hcj
          subst hcj
          exact ⟨_, _, _, _, rfl, hsh, hf, hv, rfl⟩
        · cases h
      · cases h
    · cases h
  · cases h
theorem qput_world {D : va_G} {ids : qI} {sz b a k ci : Nat} {hp : qH} {fs : List qF} {v : Int32} {H1 : Heap} (hH : hp.1.length ≤ qSCR) (hsh : hp.1[a]? = some (.inl (ci, fs))) (hf : fs[k]? = some none)
    (h : va_P D vwCl ((qws ids sz b hp).set a (sz + a, .inr (ci, (fs.mapIdx (fun j f => qfv sz b (hp.2 a) j f)).set k (.int v)))) H1) : qHR D ids sz b (hp.1, qup hp.2 a k v) H1 := by
  refine ⟨?_, hH⟩
  rw [qws_up k v hsh, qce_upd hf]
  exact h
theorem ok_putI {ci k idx N : Nat} {C : String} {T : u_T} {ty : Nat → FieldType} (hd : decode cc pc = .ok (.putfield idx, 3)) (hc : vwCl[ci]? = some (C, T, N)) (hin : ∀ w ∈ u_ws C T N, w ∈ wsG) (hty : ∀ k, k < N → parseFieldDescriptor (T k).2.2.1 = some (ty k)) (hnm : ∀ a, a < N → ∀ b, b < N → a ≠ b → (T a).2.1 ≠ (T b).2.1)
    (hk : k < N) (hw : Cond.fieldLink own idx (T k).1 (T k).2.1 (T k).2.2.1 ∈ wsG) (hfin : (T k).2.2.2 = false) (hI : parseFieldDescriptor (T k).2.2.1 = some .int) : OpOK mt cc own ml rt ini mc ms scr pc (oPutI ci k (pc + 3)) := by
  rintro p l e R s m args below meth c D ids sz b d Q ⟨hx, hb, hml, hown, hts, hX, hsz, hlk, hrt, hini⟩ hR hscr ⟨pc0, ls, st, hp, kc, ks⟩ o hpc ho
  cases hpc
  obtain ⟨v, a, st1, fs, hst, hsh, hf, rfl⟩ := oPutI_inv ho
  dsimp only at hst hsh
  subst hst
  intro hkk H locs lsA hz hH hS hL
  refine W.eq (qrefF1 (qad_lt hsh hH.2)) ?_
  refine va_put (ref := (T k).1) (v := .int v) (ty := .int) hx hb hts hin ty hty hnm hown hX.1 hH.1 (qD ids sz b hp) hS a (qws_get hsh) hc k hk (hts _ hw) (fun _ h => h) hfin hI rfl rfl (by simpa using (List.getElem?_eq_some_iff.mp hf).1) hd (fun H1 locs1 hP1 _ hS1 => ?_)
  exact hkk H1 locs1 lsA hz (qput_world hH.2 hsh hf hP1) hS1 hL
theorem ok_putZ {ci k idx N : Nat} {C : String} {T : u_T} {ty : Nat → FieldType} (hd : decode cc pc = .ok (.putfield idx, 3)) (hc : vwCl[ci]? = some (C, T, N)) (hin : ∀ w ∈ u_ws C T N, w ∈ wsG) (hty : ∀ k, k < N → parseFieldDescriptor (T k).2.2.1 = some (ty k)) (hnm : ∀ a, a < N → ∀ b, b < N → a ≠ b → (T a).2.1 ≠ (T b).2.1)
    (hk : k < N) (hw : Cond.fieldLink own idx (T k).1 (T k).2.1 (T k).2.2.1 ∈ wsG) (hfin : (T k).2.2.2 = false) (hI : parseFieldDescriptor (T k).2.2.1 = some .boolean) : OpOK mt cc own ml rt ini mc ms scr pc (oPutZ ci k (pc + 3)) := by
  rintro p l e R s m args below meth c D ids sz b d Q ⟨hx, hb, hml, hown, hts, hX, hsz, hlk, hrt, hini⟩ hR hscr ⟨pc0, ls, st, hp, kc, ks⟩ o hpc ho
  cases hpc
  obtain ⟨v, a, st1, fs, hst, hsh, hf, hv, rfl⟩ := oPutZ_inv ho
  dsimp only at hst hsh
  subst hst
  intro hkk H locs lsA hz hH hS hL
  refine W.eq (qrefF1 (qad_lt hsh hH.2)) ?_
  refine va_put (ref := (T k).1) (v := .int v) (ty := .boolean) hx hb hts hin ty hty hnm hown hX.1 hH.1 (qD ids sz b hp) hS a (qws_get hsh) hc k hk (hts _ hw) (fun _ h => h) hfin hI (by rcases hv with rfl | rfl <;> rfl) (by rcases hv with rfl | rfl <;> rfl) (by simpa using (List.getElem?_eq_some_iff.mp hf).1) hd (fun H1 locs1 hP1 _ hS1 => ?_)
  exact hkk H1 locs1 lsA hz (qput_world hH.2 hsh hf hP1) hS1 hL
theorem ok_putF {ci k idx N : Nat} {C : String} {T : u_T} {ty : Nat → FieldType} {tf : FieldType} (hd : decode cc pc = .ok (.putfield idx, 3)) (hc : vwCl[ci]? = some (C, T, N)) (hin : ∀ w ∈ u_ws C T N, w ∈ wsG) (hty : ∀ k, k < N → parseFieldDescriptor (T k).2.2.1 = some (ty k)) (hnm : ∀ a, a < N → ∀ b, b < N → a ≠ b → (T a).2.1 ≠ (T b).2.1)
    (hk : k < N) (hw : Cond.fieldLink own idx (T k).1 (T k).2.1 (T k).2.2.1 ∈ wsG) (hfin : (T k).2.2.2 = true) (hdecl : (T k).1 = own) (hii : ini = true) (hI : parseFieldDescriptor (T k).2.2.1 = some tf) (hn : ∀ a : Nat, narrow tf (.ref a) = .ref a ∧ fits tf (.ref a) = true) : OpOK mt cc own ml rt ini mc ms scr pc (oPutF ci k (pc + 3)) := by
  rintro p l e R s m args below meth c D ids sz b d Q ⟨hx, hb, hml, hown, hts, hX, hsz, hlk, hrt, hini⟩ hR hscr ⟨pc0, ls, st, hp, kc, ks⟩ o hpc ho
  cases hpc
  unfold oPutF at ho
  split at ho
  · rename_i pc1 ls1 v a st1 hp1 r1 heq
    cases heq
    split at ho
    · rename_i cj fs hsh
      split at ho
      · rename_i f hcj hf
        cases ho
        have hcj := of_decide_eq_true hcj
        subst hcj
        intro hkk H locs lsA hz hH hS hL
        have hl := (List.getElem?_eq_some_iff.mp hsh).1
        refine W.eq (qrefF1 (qad_lt hsh hH.2)) ?_
        refine va_putF (ref := (T k).1) (v := .ref (qad sz b v)) (ty := tf) hx hb hts hin ty hty hnm hown hX.1 hH.1 (qD ids sz b hp) hS a (qws_get hsh) hc k hk (hts _ hw) (fun _ h => h) hfin (hini hii) hdecl hI (hn _).1 (hn _).2 (by simpa using (List.getElem?_eq_some_iff.mp hf).1) hd (fun H1 locs1 hP1 _ hS1 => ?_)
        refine hkk H1 locs1 lsA (by dsimp only at hz ⊢; rw [List.length_set]; exact hz) ⟨?_, by dsimp only; rw [List.length_set]; exact hH.2⟩ hS1 hL
        rw [qws_sh _ hl]
        have e : qce ids sz b (hp.2 a) (.inl (cj, fs.set k (some (some v)))) = .inr (cj, (fs.mapIdx (fun j f => qfv sz b (hp.2 a) j f)).set k (.ref (qad sz b v))) := by
          show Sum.inr (cj, (fs.set k (some (some v))).mapIdx (fun j f => qfv sz b (hp.2 a) j f)) = _
          rw [qmapIdx_set]
          rfl
        rw [e]
        exact hP1
      · cases ho
    · cases ho
  · cases ho
theorem ok_iaload (hd : decode cc pc = .ok (.iaload, 1)) : OpOK mt cc own ml rt ini mc ms scr pc (oALd (pc + 1)) := by
  rintro p l e R s m args below meth c D ids sz b d Q ⟨hx, hb, hml, hown, hts, hX, hsz, hlk, hrt, hini⟩ hR hscr ⟨pc0, ls, st, hp, kc, ks⟩ o hpc ho
  cases hpc
  unfold oALd at ho
  split at ho
  · rename_i heq
    cases heq
    split at ho
    · rename_i N hsh
      split at ho
      · cases ho
      · rename_i hi
        cases ho
        intro hkk H locs lsA hz hH hS hL
        refine W.eq (qrefF1 (qad_lt hsh hH.2)) ?_
        exact va_iald hx hb hX.1 hH.1 _ 0 (qws_get hsh) rfl hi hd (hkk H locs lsA hz hH hS hL)
    · cases ho
  · cases ho
theorem ok_iastore (hd : decode cc pc = .ok (.iastore, 1)) : OpOK mt cc own ml rt ini mc ms scr pc (oASt (pc + 1)) := by
  rintro p l e R s m args below meth c D ids sz b d Q ⟨hx, hb, hml, hown, hts, hX, hsz, hlk, hrt, hini⟩ hR hscr ⟨pc0, ls, st, hp, kc, ks⟩ o hpc ho
  cases hpc
  unfold oASt at ho
  split at ho
  · rename_i heq
    cases heq
    split at ho
    · rename_i N hsh
      split at ho
      · cases ho
      · rename_i hi
        cases ho
        intro hkk H locs lsA hz hH hS hL
        refine W.eq (qrefF2 (qad_lt hsh hH.2)) ?_
        refine va_iast hx hb hX.1 hH.1 (qD ids sz b hp) hS _ 0 (qws_get hsh) rfl hi hd (fun H1 locs1 hP1 _ hS1 => ?_)
        refine hkk H1 locs1 lsA hz ⟨?_, hH.2⟩ hS1 hL
        rw [qws_up _ _ hsh]
        exact hP1
    · cases ho
  · cases ho
theorem qrf_eq {sz b : Nat} (r : Option Nat) : qmv sz b (qrf r) = va_rf (r.map (qad sz b)) := by cases r <;> rfl
theorem ok_aaload (hd : decode cc pc = .ok (.aaload, 1)) : OpOK mt cc own ml rt ini mc ms scr pc (oAALd (pc + 1)) := by
  rintro p l e R s m args below meth c D ids sz b d Q ⟨hx, hb, hml, hown, hts, hX, hsz, hlk, hrt, hini⟩ hR hscr ⟨pc0, ls, st, hp, kc, ks⟩ o hpc ho
  cases hpc
  unfold oAALd at ho
  split at ho
  · rename_i heq
    cases heq
    split at ho
    · rename_i t N rs hsh
      split at ho
      · cases ho
      · rename_i hi
        cases ho
        intro hkk H locs lsA hz hH hS hL
        refine W.eq (qrefF1 (qad_lt hsh hH.2)) ?_
        have hkk := hkk H locs lsA hz hH hS hL
        dsimp only at hkk
        rw [List.map_cons, qrf_eq] at hkk
        have hq := qws_get (ids := ids) (sz := sz) (b := b) hsh
        by_cases ht : t = 0
        · exact va_aldq (C := RX0) (cA := ids.2.1) hx hb hX.1 hH.1 _ 1 (by rw [hq]; simp only [qce, if_pos ht]; rfl) rfl hi hd hkk
        · exact va_aldq (C := RX2) (cA := ids.2.2) hx hb hX.1 hH.1 _ 2 (by rw [hq]; simp only [qce, if_neg ht]; rfl) rfl hi hd hkk
    · cases ho
  · cases ho
theorem ok_aastore (hd : decode cc pc = .ok (.aastore, 1)) : OpOK mt cc own ml rt ini mc ms scr pc (oAASt (pc + 1)) := by
  rintro p l e R s m args below meth c D ids sz b d Q ⟨hx, hb, hml, hown, hts, hX, hsz, hlk, hrt, hini⟩ hR hscr ⟨pc0, ls, st, hp, kc, ks⟩ o hpc ho
  cases hpc
  unfold oAASt at ho
  split at ho
  · rename_i pc1 ls1 v i a st1 hp1 r1 heq
    cases heq
    split at ho
    · rename_i t N rs cj fs hsh hsv
      split at ho
      · cases ho
      · rename_i hi
        split at ho
        · rename_i hcj hrl
          cases ho
          have hcj := of_decide_eq_true hcj
          have hrl := of_decide_eq_true hrl
          intro hkk H locs lsA hz hH hS hL
          have hl := (List.getElem?_eq_some_iff.mp hsh).1
          have hil : i.toNatClampNeg < rs.length := by rw [hrl]; exact Nat.not_le.mp fun q => hi (Or.inr q)
          refine W.eq (g2 := F0 m pc0 lsA (.ref (sz + v) :: .int i :: .ref (sz + a) :: st1.map (qmv sz b))) (by rw [← qad_lt hsh hH.2, ← qad_lt hsv hH.2]; rfl) ?_
          have hq := qws_get (ids := ids) (sz := sz) (b := b) hsh
          have hv := qws_get (ids := ids) (sz := sz) (b := b) hsv
          have hfin : ∀ (H1 : Heap) (locs1 : List Loc), va_P D vwCl ((qws ids sz b hp).set a (sz + a, .inl ((if t = 0 then ids.2.1 else ids.2.2), (N, .inr (.inr (.inr (.inr (va_up (fun j => (rs.getD j none).map (qad sz b)) i.toNatClampNeg (some (sz + v)))))))))) H1 →
              va_S (qA sz) s.heap H1 locs1 → W p l e R s m args below meth c H1 locs1 kc ks Q (F0 m (pc0 + 1) lsA (st1.map (qmv sz b))) := by
            intro H1 locs1 hP1 hS1
            refine hkk H1 locs1 lsA (by dsimp only at hz ⊢; rw [List.length_set]; exact hz) ⟨?_, by dsimp only; rw [List.length_set]; exact hH.2⟩ hS1 hL
            rw [qws_sh _ hl]
            have e : (fun j => ((rs.set i.toNatClampNeg (some v)).getD j none).map (qad sz b)) = va_up (fun j => (rs.getD j none).map (qad sz b)) i.toNatClampNeg (some (sz + v)) := by
              funext j
              unfold va_up
              rw [List.getD_eq_getElem?_getD, List.getElem?_set]
              by_cases hj : i.toNatClampNeg = j
              · subst hj
                rw [if_pos rfl, if_pos hil, if_pos rfl, ← qad_lt hsv hH.2]
                rfl
              · rw [if_neg hj, if_neg (Ne.symm hj)]
                simp only [List.getD_eq_getElem?_getD]
            show va_P D vwCl ((qws ids sz b hp).set a (sz + a, .inl ((if t = 0 then ids.2.1 else ids.2.2), (N, .inr (.inr (.inr (.inr (fun j => ((rs.set i.toNatClampNeg (some v)).getD j none).map (qad sz b)))))))) ) H1
            rw [e]
            exact hP1
          by_cases ht : t = 0
          · rw [if_pos ht] at hcj
            subst hcj
            refine va_astq (r := (RX0, TX0, 7)) (cA := ids.2.1) hx hb hX.1 hH.1 (qD ids sz b hp) hS a 1 v 0 (by rw [hq]; simp only [qce, if_pos ht]; rfl) rfl hv rfl hi hd (fun H1 locs1 hP1 _ hS1 => ?_)
            refine hfin H1 locs1 ?_ hS1
            rw [if_pos ht]
            exact hP1
          · rw [if_neg ht] at hcj
            subst hcj
            refine va_astq (r := (RX2, TX2, 4)) (cA := ids.2.2) hx hb hX.1 hH.1 (qD ids sz b hp) hS a 2 v 2 (by rw [hq]; simp only [qce, if_neg ht]; rfl) rfl hv rfl hi hd (fun H1 locs1 hP1 _ hS1 => ?_)
            refine hfin H1 locs1 ?_ hS1
            rw [if_neg ht]
            exact hP1
        · cases ho
    · cases ho
  · cases ho
theorem ok_alen (hd : decode cc pc = .ok (.arraylength, 1)) : OpOK mt cc own ml rt ini mc ms scr pc (oLen (pc + 1)) := by
  rintro p l e R s m args below meth c D ids sz b d Q ⟨hx, hb, hml, hown, hts, hX, hsz, hlk, hrt, hini⟩ hR hscr ⟨pc0, ls, st, hp, kc, ks⟩ o hpc ho
  cases hpc
  unfold oLen at ho
  split at ho
  · rename_i heq
    cases heq
    split at ho
    · rename_i N hsh
      cases ho
      intro hkk H locs lsA hz hH hS hL
      refine W.eq (qrefF (qad_lt hsh hH.2)) ?_
      exact va_alen hx hb hX.1 hH.1 _ 0 (qws_get hsh) rfl rfl hd (hkk H locs lsA hz hH hS hL)
    · rename_i t N rs hsh
      cases ho
      intro hkk H locs lsA hz hH hS hL
      refine W.eq (qrefF (qad_lt hsh hH.2)) ?_
      have hq := qws_get (ids := ids) (sz := sz) (b := b) hsh
      by_cases ht : t = 0
      · exact va_alen (cA := ids.2.1) (x := (N, .inr (.inr (.inr (.inr (fun j => (rs.getD j none).map (qad sz b))))))) (v := Int32.ofNat N) hx hb hX.1 hH.1 _ 1 (by rw [hq]; simp only [qce, if_pos ht]) rfl rfl hd (hkk H locs lsA hz hH hS hL)
      · exact va_alen (cA := ids.2.2) (x := (N, .inr (.inr (.inr (.inr (fun j => (rs.getD j none).map (qad sz b))))))) (v := Int32.ofNat N) hx hb hX.1 hH.1 _ 2 (by rw [hq]; simp only [qce, if_neg ht]) rfl rfl hd (hkk H locs lsA hz hH hS hL)
    · cases ho
  · cases ho
theorem ok_slen {L : Nat} {xs : Nat → Int32} (hd : decode cc pc = .ok (.arraylength, 1)) (hsc : scr = some (L, xs)) : OpOK mt cc own ml rt ini mc ms scr pc (oSLen L (pc + 1)) := by
  rintro p l e R s m args below meth c D ids sz b d Q ⟨hx, hb, hml, hown, hts, hX, hsz, hlk, hrt, hini⟩ hR hscr ⟨pc0, ls, st, hp, kc, ks⟩ o hpc ho
  cases hpc
  obtain ⟨h1, h2, h3⟩ := hscr _ hsc
  unfold oSLen at ho
  split at ho
  · rename_i heq
    cases heq
    split at ho
    · rename_i ha
      cases ho
      subst ha
      intro hkk H locs lsA hz hH hS hL
      exact va_slen (H0 := s.heap) hx hb h1 (by rw [h3]; exact h2) (fun h => by have h4 : sz ≤ b := h; omega) hS hd (hkk H locs lsA hz hH hS hL)
    · cases ho
  · cases ho
theorem ok_sld {L : Nat} {xs : Nat → Int32} (hd : decode cc pc = .ok (.iaload, 1)) (hsc : scr = some (L, xs)) : OpOK mt cc own ml rt ini mc ms scr pc (oSLd L xs (pc + 1)) := by
  rintro p l e R s m args below meth c D ids sz b d Q ⟨hx, hb, hml, hown, hts, hX, hsz, hlk, hrt, hini⟩ hR hscr ⟨pc0, ls, st, hp, kc, ks⟩ o hpc ho
  cases hpc
  obtain ⟨h1, h2, h3⟩ := hscr _ hsc
  unfold oSLd at ho
  split at ho
  · rename_i heq
    cases heq
    split at ho
    · rename_i ha
      cases ho
      obtain ⟨ha, hi⟩ := ha
      subst ha
      intro hkk H locs lsA hz hH hS hL
      exact va_sld (H0 := s.heap) hx hb h1 (by rw [h3]; exact h2) (fun h => by have h4 : sz ≤ b := h; omega) hS hi hd (hkk H locs lsA hz hH hS hL)
    · cases ho
  · cases ho
end OK4

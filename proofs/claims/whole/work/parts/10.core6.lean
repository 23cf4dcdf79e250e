/-! ===== core 6: calls; the soundness of runs ===== -/
section Calls6
variable {p : Program} {l : Launch} {e : Env} {R : Room} {s : State} {m : MethodId} {args : Array Value} {below : List Frame} {meth : Method} {c : Code} {H : Heap} {locs : List Loc} {cells slots : Nat} {Q : State → Prop}
theorem qcall {pc : Nat} {ls : Array Slot} {st0 rest : List Value} {mc ms : Nat} {D : va_G} {ids : qI} {sz b : Nat} {v : Option Value} {hp1 : qH} {a : Array Value}
    (hr : va_Run p l e R s m args below meth c H locs cells slots mc ms (F0 m pc ls st0) rest (qQC D ids sz b v hp1 a) (qA sz)) (hS : va_S (qA sz) s.heap H locs)
    (kk : ∀ (H1 : Heap) (locs1 : List Loc), qHR D ids sz b hp1 H1 → va_S (qA sz) s.heap H1 locs1 → W p l e R s m args below meth c H1 locs1 (cells + mc) (slots + ms) Q (F0 m (pc + 3) ls ((v.map (qmv sz b)).toList ++ rest))) : W p l e R s m args below meth c H locs cells slots Q (F0 m pc ls st0) := by
  intro T hT X
  obtain ⟨v', st₀, t, T', L, h0, X', hL, e1, e2, ⟨ho, hHR, hz, hk⟩, st⟩ := hr T hT X
  cases ho
  rw [h0] at hz hk
  obtain ⟨t2, a1, b1⟩ := kk T'.heap (locs ++ L) (by rw [e1]; exact hHR) ⟨Nat.le_trans hS.1 (by rw [e1]; exact hz), fun q g1 g2 => by rw [e1, hk q (Nat.lt_of_lt_of_le g1 hS.1) g2]; exact hS.2.1 q g1 g2, fun q hq => by
      rcases List.mem_append.mp hq with h | h
      · exact hS.2.2 q h
      · exact hL q h⟩ T' rfl X'
  exact ⟨t2, st t2 a1, b1⟩
theorem qblind {D : va_G} {ids : qI} {sz b : Nat} {as : List Value} {hp : qH} : FrameBlind (va_Pc as (qPC D ids sz b hp)) := by
  rintro a U g mk ⟨h1, h2, h3, h4⟩
  exact ⟨h1, h2, qX.same (u := U) (U := U.calling g mk a) rfl h3, h4⟩
theorem qgoodc {t : qM} (h : qMOK t) : GoodIn wsG (Cond.code t.1 t.2.1 t.2.2.1 t.2.2.2.1 :: wsG) := by
  intro w hw
  rcases List.mem_cons.mp hw with rfl | hw
  · exact qgood _ h.2.1
  · exact qgood _ hw
theorem qcat_map {sz b : Nat} {st : List Value} (h : qcat st ≤ 8) : ((st.map (qmv sz b)).map fun v => v.category).sum ≤ 8 := by
  rw [List.map_map, show (fun v => v.category) ∘ qmv sz b = fun v : Value => v.category from funext fun v => qmv_cat sz b v]
  exact h
theorem qsplit {st : List Value} {na : Nat} {v : Value} (h : st[na]? = some v) : st = st.take na ++ v :: st.drop (na + 1) := by
  have hl := (List.getElem?_eq_some_iff.mp h).1
  have h2 : st[na] = v := (List.getElem?_eq_some_iff.mp h).2
  conv => lhs; rw [← List.take_append_drop na st, List.drop_eq_getElem_cons hl, h2]
theorem qrevmap {sz b : Nat} (l : List Value) : ((l.reverse).map (qmv sz b)).reverse = l.map (qmv sz b) := by
  rw [← List.map_reverse, List.reverse_reverse]
end Calls6
section OK6
variable {mt : List qM} {cc : ByteArray} {own : String} {ml : Nat} {rt : Option FieldType} {ini : Bool} {mc ms : Nat} {scr : Option (Nat × (Nat → Int32))} {pc : Nat}
theorem ok_callV {y ci na kc ks idx N : Nat} {t0 : qM} {C : String} {T : u_T} (hd : decode cc pc = .ok (.invokevirtual idx, 3)) (hm : mt[y]? = some t0) (hkc : t0.2.2.2.2.1 = kc) (hks : t0.2.2.2.2.2 = ks) (hcl : vwCl[ci]? = some (C, T, N)) (h1 : Cond.methodLink own idx t0.1 ∈ wsG) (h2 : Cond.instanceMethod t0.1 ∈ wsG)
    (h3 : Cond.selects C t0.1 t0.1 ∈ wsG) (hn : (parseMethodDescriptor t0.1.desc).map (fun d => d.parameters.length) = some na) : OpOK mt cc own ml rt ini mc ms scr pc (oCallV y ci na kc ks mc ms (pc + 3)) := by
  rintro p l e R s m args below meth c D ids sz b d Q ⟨hx, hb, hml, hown, hts, hX, hsz, hlk, hrt, hini⟩ hR hscr ⟨pc0, ls, st, hp, k, q⟩ o hpc ho
  cases hpc
  unfold oCallV at ho
  dsimp only at ho
  split at ho
  · rename_i a hst
    split at ho
    · rename_i cj fs hsh
      split at ho
      · rename_i hcj hc8 hbud
        have hcj := of_decide_eq_true hcj
        have hc8 := of_decide_eq_true hc8
        have hbud := of_decide_eq_true hbud
        subst hcj
        cases ho
        intro t v hp1 ht hok hM hlen hkk H locs lsA hz hH hS hL
        cases hm.symm.trans ht
        subst hkc
        subst hks
        show W p l e R s m args below meth c H locs k q Q (F0 m pc0 lsA (st.map (qmv sz b)))
        refine qW_sz (fun hup => ?_)
        have hlo := qHR_lo hH hS hsz
        dsimp only at hz hlo hlen hM
        have hH0 : H.size = sz + hp.1.length := by omega
        obtain ⟨o1, o2, o3, o4, o5⟩ := hok
        have hstk : st.map (qmv sz b) = (((st.take na).reverse).map (qmv sz b)).reverse ++ .ref (sz + a) :: (st.drop (na + 1)).map (qmv sz b) := by
          conv => lhs; rw [qsplit hst]
          rw [List.map_append, List.map_cons, qrevmap, ← qad_lt hsh hH.2]
          rfl
        have hlen2 : (((st.take na).reverse).map (qmv sz b)).length = na := by
          have hl := (List.getElem?_eq_some_iff.mp hst).1
          rw [List.length_map, List.length_reverse, List.length_take]
          omega
        refine qcall (va_runV (C := C) (b := sz + a) (As := ((st.take na).reverse).map (qmv sz b)) (rest := (st.drop (na + 1)).map (qmv sz b)) (nL := ml) ⟨hx, hb, hml, hown, hts⟩ hM
          ⟨callB_of na hts (qgoodc ⟨o1, o2, o3, o4, o5⟩) rfl rfl rfl (hts _ o3) (hts _ h1) ⟨o5.1, o5.2, hn⟩ ⟨by show d + 1 ≤ _; omega, by show 8 + (_ + 11) + 100 * d ≤ _; omega⟩, hts _ h2, hts _ h3⟩
          ⟨qblind, va_recv hX.1 hH.1 hcl (qws_get hsh), fun U hU hW => ⟨by rw [← qad_lt hsh hH.2]; rfl, by rw [hU]; exact hH, hX.warm hW, by rw [hU]; exact hH0⟩⟩ rfl hlen2 hL.1.1 hstk (lv_room (qcat_map hc8)) hd ⟨by omega, by omega⟩) hS (fun H1 locs1 hH1 hS1 => ?_)
        have := hkk H1 locs1 lsA (by dsimp only; omega) hH1 hS1 hL
        dsimp only at this
        rw [List.map_append] at this
        cases v <;> exact this
      · cases ho
    · cases ho
  · cases ho
theorem ok_callS {y na kc ks idx : Nat} {t0 : qM} (hd : decode cc pc = .ok (.invokestatic idx, 3)) (hm : mt[y]? = some t0) (hkc : t0.2.2.2.2.1 = kc) (hks : t0.2.2.2.2.2 = ks) (h1 : Cond.methodLink own idx t0.1 ∈ wsG) (h2 : Cond.static t0.1 ∈ wsG)
    (hn : (parseMethodDescriptor t0.1.desc).map (fun d => d.parameters.length) = some na) : OpOK mt cc own ml rt ini mc ms scr pc (oCallS y na kc ks mc ms (pc + 3)) := by
  rintro p l e R s m args below meth c D ids sz b d Q ⟨hx, hb, hml, hown, hts, hX, hsz, hlk, hrt, hini⟩ hR hscr ⟨pc0, ls, st, hp, k, q⟩ o hpc ho
  cases hpc
  unfold oCallS at ho
  dsimp only at ho
  split at ho
  · rename_i hna hc8 hbud
    have hna := of_decide_eq_true hna
    have hc8 := of_decide_eq_true hc8
    have hbud := of_decide_eq_true hbud
    cases ho
    intro t v hp1 ht hok hM hlen hkk H locs lsA hz hH hS hL
    cases hm.symm.trans ht
    subst hkc
    subst hks
    show W p l e R s m args below meth c H locs k q Q (F0 m pc0 lsA (st.map (qmv sz b)))
    refine qW_sz (fun hup => ?_)
    have hlo := qHR_lo hH hS hsz
    dsimp only at hz hlo hlen hM
    have hH0 : H.size = sz + hp.1.length := by omega
    obtain ⟨o1, o2, o3, o4, o5⟩ := hok
    have hstk : st.map (qmv sz b) = (((st.take na).reverse).map (qmv sz b)).reverse ++ (st.drop na).map (qmv sz b) := by
      rw [qrevmap, ← List.map_append, List.take_append_drop]
    have hlen2 : (((st.take na).reverse).map (qmv sz b)).length = na := by
      rw [List.length_map, List.length_reverse, List.length_take]
      omega
    refine qcall (va_runS (As := ((st.take na).reverse).map (qmv sz b)) (rest := (st.drop na).map (qmv sz b)) (nL := ml) ⟨hx, hb, hml, hown, hts⟩ hM
      ⟨callB_of na hts (qgoodc ⟨o1, o2, o3, o4, o5⟩) rfl rfl rfl (hts _ o3) (hts _ h1) ⟨o5.1, o5.2, hn⟩ ⟨by show d + 1 ≤ _; omega, by show 8 + (_ + 11) + 100 * d ≤ _; omega⟩, hts _ h2⟩
      ⟨qblind, fun U hU hW => ⟨rfl, by rw [hU]; exact hH, hX.warm hW, by rw [hU]; exact hH0⟩⟩ rfl hlen2 hL.1.1 hstk (lv_room (qcat_map hc8)) hd ⟨by omega, by omega⟩) hS (fun H1 locs1 hH1 hS1 => ?_)
    have := hkk H1 locs1 lsA (by dsimp only; omega) hH1 hS1 hL
    dsimp only at this
    rw [List.map_append] at this
    cases v <;> exact this
  · cases ho
theorem ok_callI {y na kc ks idx : Nat} {t0 : qM} (hd : decode cc pc = .ok (.invokespecial idx, 3)) (hm : mt[y]? = some t0) (hkc : t0.2.2.2.2.1 = kc) (hks : t0.2.2.2.2.2 = ks) (h1 : Cond.methodLink own idx t0.1 ∈ wsG) (h2 : Cond.instanceMethod t0.1 ∈ wsG) (hin : t0.1.name = "<init>") (hr0 : t0.2.2.2.1 = none)
    (hn : (parseMethodDescriptor t0.1.desc).map (fun d => d.parameters.length) = some na) : OpOK mt cc own ml rt ini mc ms scr pc (oCallI y na kc ks mc ms (pc + 3)) := by
  rintro p l e R s m args below meth c D ids sz b d Q ⟨hx, hb, hml, hown, hts, hX, hsz, hlk, hrt, hini⟩ hR hscr ⟨pc0, ls, st, hp, k, q⟩ o hpc ho
  cases hpc
  unfold oCallI at ho
  dsimp only at ho
  split at ho
  · rename_i a hst
    split at ho
    · rename_i hc8 hbud
      have hc8 := of_decide_eq_true hc8
      have hbud := of_decide_eq_true hbud
      cases ho
      intro t v hp1 ht hok hM hlen hkk H locs lsA hz hH hS hL
      cases hm.symm.trans ht
      subst hkc
      subst hks
      show W p l e R s m args below meth c H locs k q Q (F0 m pc0 lsA (st.map (qmv sz b)))
      refine qW_sz (fun hup => ?_)
      have hlo := qHR_lo hH hS hsz
      dsimp only at hz hlo hlen hM
      have hH0 : H.size = sz + hp.1.length := by omega
      have hgc := qgoodc hok
      obtain ⟨o1, o2, o3, o4, o5⟩ := hok
      have hstk : st.map (qmv sz b) = (((st.take na).reverse).map (qmv sz b)).reverse ++ .ref (qad sz b a) :: (st.drop (na + 1)).map (qmv sz b) := by
        conv => lhs; rw [qsplit hst]
        rw [List.map_append, List.map_cons, qrevmap]
        rfl
      have hlen2 : (((st.take na).reverse).map (qmv sz b)).length = na := by
        have hl := (List.getElem?_eq_some_iff.mp hst).1
        rw [List.length_map, List.length_reverse, List.length_take]
        omega
      refine qcall (va_runI (b := qad sz b a) (As := ((st.take na).reverse).map (qmv sz b)) (rest := (st.drop (na + 1)).map (qmv sz b)) (nL := ml) ⟨hx, hb, hml, hown, hts⟩ hM
        ⟨callB_of na hts hgc (by rw [hr0]) rfl rfl (hts _ o3) (hts _ h1) ⟨o5.1, o5.2, hn⟩ ⟨by show d + 1 ≤ _; omega, by show 8 + (_ + 11) + 100 * d ≤ _; omega⟩, hin, hts _ h2⟩
        ⟨qblind, fun U hU hW => ⟨rfl, by rw [hU]; exact hH, hX.warm hW, by rw [hU]; exact hH0⟩⟩ rfl hlen2 hL.1.1 hstk (lv_room (qcat_map hc8)) hd ⟨by omega, by omega⟩) hS (fun H1 locs1 hH1 hS1 => ?_)
      have := hkk H1 locs1 lsA (by dsimp only; omega) hH1 hS1 hL
      dsimp only at this
      rw [List.map_append] at this
      cases v <;> exact this
    · cases ho
  · cases ho
theorem ok_callIN {y na kc ks idx : Nat} {t0 : qM} (hd : decode cc pc = .ok (.invokespecial idx, 3)) (hm : mt[y]? = some t0) (hkc : t0.2.2.2.2.1 = kc) (hks : t0.2.2.2.2.2 = ks) (h1 : (own, idx, t0.1) ∈ qnest) (h2 : Cond.instanceMethod t0.1 ∈ wsG) (hin : t0.1.name = "<init>") (hr0 : t0.2.2.2.1 = none)
    (hn : (parseMethodDescriptor t0.1.desc).map (fun d => d.parameters.length) = some na) : OpOK mt cc own ml rt ini mc ms scr pc (oCallI y na kc ks mc ms (pc + 3)) := by
  rintro p l e R s m args below meth c D ids sz b d Q ⟨hx, hb, hml, hown, hts, hX, hsz, hlk, hrt, hini⟩ hR hscr ⟨pc0, ls, st, hp, k, q⟩ o hpc ho
  cases hpc
  unfold oCallI at ho
  dsimp only at ho
  split at ho
  · rename_i a hst
    split at ho
    · rename_i hc8 hbud
      have hc8 := of_decide_eq_true hc8
      have hbud := of_decide_eq_true hbud
      cases ho
      intro t v hp1 ht hok hM hlen hkk H locs lsA hz hH hS hL
      cases hm.symm.trans ht
      subst hkc
      subst hks
      show W p l e R s m args below meth c H locs k q Q (F0 m pc0 lsA (st.map (qmv sz b)))
      refine qW_sz (fun hup => ?_)
      have hlo := qHR_lo hH hS hsz
      dsimp only at hz hlo hlen hM
      have hH0 : H.size = sz + hp.1.length := by omega
      have hgc := qgoodc hok
      obtain ⟨o1, o2, o3, o4, o5⟩ := hok
      have hstk : st.map (qmv sz b) = (((st.take na).reverse).map (qmv sz b)).reverse ++ .ref (qad sz b a) :: (st.drop (na + 1)).map (qmv sz b) := by
        conv => lhs; rw [qsplit hst]
        rw [List.map_append, List.map_cons, qrevmap]
        rfl
      have hlen2 : (((st.take na).reverse).map (qmv sz b)).length = na := by
        have hl := (List.getElem?_eq_some_iff.mp hst).1
        rw [List.length_map, List.length_reverse, List.length_take]
        omega
      refine qcall (va_runIN (host := RX5) (b := qad sz b a) (As := ((st.take na).reverse).map (qmv sz b)) (rest := (st.drop (na + 1)).map (qmv sz b)) (nL := ml) ⟨hx, hb, hml, hown, hts⟩ hM
        ⟨va_cnB na hts hgc (by rw [hr0]) rfl rfl (hX.2.2.2 _ h1) (hts _ o3) ⟨o5.1, o5.2, hn⟩ ⟨by show d + 1 ≤ _; omega, by show 8 + (_ + 11) + 100 * d ≤ _; omega⟩, hin, hts _ h2⟩
        ⟨qblind, fun U hU hW => ⟨rfl, by rw [hU]; exact hH, hX.warm hW, by rw [hU]; exact hH0⟩⟩ rfl hlen2 hL.1.1 hstk (lv_room (qcat_map hc8)) hd ⟨by omega, by omega⟩) hS (fun H1 locs1 hH1 hS1 => ?_)
      have := hkk H1 locs1 lsA (by dsimp only; omega) hH1 hS1 hL
      dsimp only at this
      rw [List.map_append] at this
      cases v <;> exact this
    · cases ho
  · cases ho
end OK6
theorem qlookup {cd : List (Nat × qOp)} {a : Nat} {op : qOp} (h : cd.lookup a = some op) : (a, op) ∈ cd := by
  induction cd with
  | nil => cases h
  | cons x l ih =>
    obtain ⟨k, o⟩ := x
    rw [List.lookup_cons] at h
    cases hk : (a == k) with
    | true =>
      rw [hk] at h
      cases h
      rw [beq_iff_eq.mp hk]
      exact List.mem_cons_self
    | false =>
      rw [hk] at h
      exact List.mem_cons_of_mem _ (ih h)
def qCodeOK (mt : List qM) (t : qM) (cd : List (Nat × qOp)) : Prop := ∀ x ∈ cd, OpOK mt t.2.1 t.1.cls t.2.2.1 t.2.2.2.1 (t.1.name == "<init>") t.2.2.2.2.1 t.2.2.2.2.2 none x.1 x.2
theorem Rn_sound {mt : List qM} {cc : ByteArray} {own : String} {ml : Nat} {rt : Option FieldType} {ini : Bool} {mc ms : Nat} {scr : Option (Nat × (Nat → Int32))} {call : Nat → List Value → qH → Option Value → qH → Prop} {cd : List (Nat × qOp)}
    {p : Program} {l : Launch} {e : Env} {R : Room} {s : State} {m : MethodId} {args : Array Value} {below : List Frame} {meth : Method} {c : Code} {D : va_G} {ids : qI} {sz b d : Nat} {Q : State → Prop}
    (K : qK p s m args c meth cc own ml rt ini D ids sz) (hR : d + 1 ≤ R.frames ∧ 100 * (d + 1) ≤ R.locals ∧ mc ≤ R.cells ∧ ms ≤ R.slots) (hscr : ∀ q, scr = some q → va_X b q.1 q.2 s s.heap ∧ b < sz ∧ s.heap.size = sz)
    (hcd : ∀ x ∈ cd, OpOK mt cc own ml rt ini mc ms scr x.1 x.2)
    (hcall : ∀ (y : Nat) (as : List Value) (hp : qH) (v : Option Value) (hp1 : qH), call y as hp v hp1 → ∃ t : qM, mt[y]? = some t ∧ qMOK t ∧ qMet d l D ids sz b t as hp v hp1 ∧ hp1.1.length = hp.1.length + t.2.2.2.2.1)
    (r : Option Value × qC) (hret : ∀ (op : qOp) (x : qC), (x.1, op) ∈ cd → op x = some (.inr (.inr r)) → qW p l e R s m args below meth c D ids sz b ml Q x) :
    ∀ (n : Nat) (x : qC), Rn call cd n x r → qW p l e R s m args below meth c D ids sz b ml Q x := by
  intro n
  induction n with
  | zero => intro x h; exact absurd h (by simp [Rn])
  | succ n ih =>
    intro x h
    rcases h with ⟨mask, h⟩ | h
    · intro H locs lsA hz hH hS hL
      exact ih _ h H locs lsA hz hH hS (hL.drop mask)
    · cases hlk : cd.lookup x.1 with
      | none => rw [hlk] at h; exact h.elim
      | some op =>
        rw [hlk] at h
        dsimp only at h
        have hmem := qlookup hlk
        cases hop : op x with
        | none => rw [hop] at h; exact h.elim
        | some o =>
          rw [hop] at h
          have hok := hcd _ hmem p l e R s m args below meth c D ids sz b d Q K hR hscr x o rfl hop
          rcases o with x' | q | r'
          · exact hok (ih _ h)
          · obtain ⟨v, h1, hc1, hc2⟩ := h
            obtain ⟨t, ht1, ht2, ht3, ht4⟩ := hcall _ _ _ _ _ hc1
            exact hok t v h1 ht1 ht2 ht3 ht4 (ih _ hc2)
          · have hrr : r' = r := h
            subst hrr
            exact hret op x hmem hop
/-- THE SOUNDNESS OF THE ABSTRACT MACHINE -/
theorem qsound {mt : List qM} {cds : List (List (Nat × qOp))} (hok : ∀ (y : Nat) (t : qM) (k : List (Nat × qOp)), mt[y]? = some t → cds[y]? = some k → qMOK t ∧ qCodeOK mt t k) :
    ∀ (d y : Nat) (as : List Value) (hp : qH) (v : Option Value) (hp1 : qH), Ex mt cds d y as hp v hp1 →
      ∃ t : qM, mt[y]? = some t ∧ qMOK t ∧ hp1.1.length = hp.1.length + t.2.2.2.2.1 ∧ ∀ (l : Launch) (D : va_G) (ids : qI) (sz b : Nat), qMet d l D ids sz b t as hp v hp1 := by
  intro d
  induction d with
  | zero => intro y as hp v hp1 h; exact absurd h (by simp [Ex])
  | succ d ih =>
    intro y as hp v hp1 h
    obtain ⟨t, k, n, x, ht, hk, hel, hrun, hx1, hlen, hb1, hb2⟩ := h
    obtain ⟨hM, hC⟩ := hok y t k ht hk
    refine ⟨t, ht, hM, hlen, fun l D ids sz b => ?_⟩
    unfold qMet
    refine Met.ofW (cc := t.2.1) (maxL := t.2.2.1) (ret := t.2.2.2.1) hM.1 rfl ?_
    intro p e s m args below meth c s₁ B hml hv
    obtain ⟨rfl, hH, hX, hsize⟩ := hv
    have hts := atoms_spec (ws := Cond.code t.1 t.2.1 t.2.2.1 t.2.2.2.1 :: wsG) B.pre
    have hown : s.vm.findClass t.1.cls = some m.cls := findClass_of_methodNamed B.named
    rw [lg_entry_eq]
    have K : qK p s m ((as.map (qmv sz b)).toArray) c meth t.2.1 t.1.cls t.2.2.1 t.2.2.2.1 (t.1.name == "<init>") D ids sz :=
      ⟨B.exec, B.bytes, hml, hown, fun w hw => hts w (List.mem_cons_of_mem _ hw), hX, by omega, B.notSynchronized, B.returns, fun h => by
        have h2 := (name_of_methodNamed B.named B.method).1
        rw [h2]
        exact beq_iff_eq.mp h⟩
    have main := Rn_sound (mt := mt) (scr := none) (R := qroom (d + 1) t.2.2.2.2.1 t.2.2.2.2.2) (d := d) (l := l) (e := e) (below := below) (b := b)
      (Q := MQ below (qQC D ids sz b v hp1) ((as.map (qmv sz b)).toArray) s t.2.2.2.2.1 t.2.2.2.2.2 (qA sz)) K ⟨Nat.le_refl _, Nat.le_refl _, Nat.le_refl _, Nat.le_refl _⟩ (fun q h => by cases h) hC
      (fun y as hp v hp1 h => by
        obtain ⟨t', a1, a2, a3, a4⟩ := ih y as hp v hp1 h
        exact ⟨t', a1, a2, a4 l D ids sz b, a3⟩) (v, x) (fun op x' hmem hop => ?_) n _ hrun
    · exact main s.heap [] _ (by show sz + hp.1.length = s.heap.size + 0; omega) hH va_S.rf (qLV.entry as hel)
    · have hfin := hC _ hmem p l e (qroom (d + 1) t.2.2.2.2.1 t.2.2.2.2.2) s m _ below meth c D ids sz b d (fun _ => True) K ⟨Nat.le_refl _, Nat.le_refl _, Nat.le_refl _, Nat.le_refl _⟩ (fun q h => by cases h) x' _ rfl hop
      obtain ⟨e1, -, hW⟩ := hfin
      dsimp only at e1
      subst e1
      intro H locs lsA hz hH1 hS hL
      refine W.widen (k := t.2.2.2.2.1) (n := t.2.2.2.2.2) hb1 hb2 ?_
      rw [hx1] at hH1
      exact hW (qQC D ids sz b v hp1) (qA sz) H locs lsA _ _ (fun t' ht' hWm => ⟨rfl, by rw [ht']; exact hH1, hS.F ht'⟩) hS.2.2

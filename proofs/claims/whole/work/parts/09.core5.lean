/-! ===== core 5: new cells, copies, calls, returns ===== -/
section OK5
variable {mt : List qM} {cc : ByteArray} {own : String} {ml : Nat} {rt : Option FieldType} {ini : Bool} {mc ms : Nat} {scr : Option (Nat × (Nat → Int32))} {pc : Nat}
/-- where the next cell comes -/
theorem qnewat {sz b len : Nat} {x : Nat} (h : x = sz + len) (hl : len + 1 ≤ qSCR) : x = qad sz b len := by
  unfold qad
  rw [if_neg (by omega)]
  exact h
theorem ok_new {ci N idx : Nat} {C : String} {T : u_T} {ty : Nat → FieldType} {fs : List qF} (hd : decode cc pc = .ok (.new idx, 3)) (hc : vwCl[ci]? = some (C, T, N)) (hin : ∀ w ∈ u_ws C T N, w ∈ wsG) (hty : ∀ k, k < N → parseFieldDescriptor (T k).2.2.1 = some (ty k))
    (h1 : Cond.classLink own idx C ∈ wsG) (h2 : Cond.instantiable C N ∈ wsG) (h3 : Cond.initialized C ∈ wsG) (hl : fs.length = N) (hfs : ∀ j, j < N → defaultValue (ty j) = match fs[j]? with
      | some none => .int 0
      | _ => .null) (hfs2 : ∀ f ∈ fs, f = none ∨ f = some none) : OpOK mt cc own ml rt ini mc ms scr pc (oNew ci N fs mc ms (pc + 3)) := by
  rintro p l e R s m args below meth c D ids sz b d Q ⟨hx, hb, hml, hown, hts, hX, hsz, hlk, hrt, hini⟩ hR hscr ⟨pc0, ls, st, hp, kc, ks⟩ o hpc ho
  cases hpc
  unfold oNew at ho
  dsimp only at ho
  split at ho
  · rename_i hroom
    obtain ⟨g1, g2, g3⟩ := hroom
    cases ho
    intro hkk H locs lsA hz hH hS hL
    show W p l e R s m args below meth c H locs kc ks Q (F0 m pc0 lsA (st.map (qmv sz b)))
    refine qW_sz (fun hup => ?_)
    have hlo := qHR_lo hH hS hsz
    dsimp only at hz hlo
    have hH0 : H.size = sz + hp.1.length := by omega
    have hKn := hX.1.1 ci _ hc
    refine W.newcK (g := F0 m pc0 lsA (st.map (qmv sz b))) hx hb hown (hts _ h1) (hts _ h2) (hts _ h3) rfl hd (by omega) (by omega) hKn.2.1 rfl fun H1 kC hkC e1 z1 o1 => ?_
    have hkp : ∀ (k : Nat) (x : Nat × va_E), (qws ids sz b hp)[k]? = some x → H1[x.1]? = H[x.1]? := fun k x hx => o1 x.1 ((hH.1 k x hx).lt)
    have e2 : F0 m (pc0 + 3) lsA ((Value.ref hp.1.length :: st).map (qmv sz b)) = { F0 m pc0 lsA (st.map (qmv sz b)) with pc := (F0 m pc0 lsA (st.map (qmv sz b))).pc + 3, stack := .ref H.size :: (F0 m pc0 lsA (st.map (qmv sz b))).stack } := by
      rw [qnewat (b := b) hH0 g3]
      rfl
    rw [← e2]
    refine hkk H1 locs lsA (by dsimp only; rw [List.length_append, List.length_singleton]; omega) ⟨?_, by dsimp only; rw [List.length_append, List.length_singleton]; exact g3⟩ ⟨Nat.le_trans hS.1 (by omega), fun x y1 y2 => (o1 x (Nat.lt_of_lt_of_le y1 hS.1)).trans (hS.2.1 x y1 y2), hS.2.2⟩ hL
    rw [qws_new _ _ (fun o k ho => by simp [qz, Nat.ne_of_lt ho])]
    refine (hH.1.kept hkp).app (fun k x hx => ?_)
    have hz0 : k < 1 := (List.getElem?_eq_some_iff.mp hx).1
    rw [show k = 0 by omega] at hx
    cases hx
    rw [← hH0]
    refine ⟨_, hc, (u_born ty hts hin hKn hkC e1 hty).to fun j hj => ?_⟩
    rw [hfs j hj]
    have hj2 : j < fs.length := by omega
    have hm := hfs2 _ (List.getElem_mem hj2)
    unfold vp_V
    rw [List.getD_eq_getElem?_getD, List.getElem?_mapIdx, List.getElem?_eq_getElem hj2]
    rcases hm with hm | hm
    · rw [hm]
      simp [qfv, qz]
    · rw [hm]
      rfl
  · cases ho
theorem ok_newI (hd : decode cc pc = .ok (.newarray .int, 2)) (h1 : Cond.arrayClass .int ∈ wsG) : OpOK mt cc own ml rt ini mc ms scr pc (oNewI mc ms (pc + 2)) := by
  rintro p l e R s m args below meth c D ids sz b d Q ⟨hx, hb, hml, hown, hts, hX, hsz, hlk, hrt, hini⟩ hR hscr ⟨pc0, ls, st, hp, kc, ks⟩ o hpc ho
  cases hpc
  unfold oNewI at ho
  split at ho
  · rename_i pc1 ls1 z st1 hp1 kc1 ks1 heq
    cases heq
    split at ho
    · rename_i hroom
      obtain ⟨g0, g00, g1, g2, g3⟩ := hroom
      cases ho
      intro hkk H locs lsA hz hH hS hL
      show W p l e R s m args below meth c H locs kc ks Q (F0 m pc0 lsA ((.int z :: st1).map (qmv sz b)))
      refine qW_sz (fun hup => ?_)
      have hlo := qHR_lo hH hS hsz
      dsimp only at hz hlo
      have hH0 : H.size = sz + hp.1.length := by omega
      refine va_newaK (atype := .int) (g := F0 m pc0 lsA (.int z :: st1.map (qmv sz b))) hx hb (hts _ h1) rfl hd rfl g0 rfl (by show z.toNatClampNeg * 4 ≤ _; omega) (by omega) (by omega) rfl fun H1 cA e1 z1 o1 hAr hNm => ?_
      have hcA : cA = ids.1 := by
        have h5 := (hX.1.2 0 (ids.1, .int) rfl).2
        exact Option.some.inj (hNm.symm.trans h5)
      subst hcA
      have hkp : ∀ (k : Nat) (x : Nat × va_E), (qws ids sz b hp)[k]? = some x → H1[x.1]? = H[x.1]? := fun k x hx => o1 x.1 ((hH.1 k x hx).lt)
      have e2 : F0 m (pc0 + 2) lsA ((Value.ref hp.1.length :: st1).map (qmv sz b)) = { F0 m pc0 lsA (.int z :: st1.map (qmv sz b)) with pc := (F0 m pc0 lsA (.int z :: st1.map (qmv sz b))).pc + 2, stack := .ref H.size :: st1.map (qmv sz b) } := by
        rw [qnewat (b := b) hH0 g3]
        rfl
      rw [← e2]
      refine hkk H1 locs lsA (by dsimp only; rw [List.length_append, List.length_singleton]; omega) ⟨?_, by dsimp only; rw [List.length_append, List.length_singleton]; exact g3⟩ ⟨Nat.le_trans hS.1 (by omega), fun x y1 y2 => (o1 x (Nat.lt_of_lt_of_le y1 hS.1)).trans (hS.2.1 x y1 y2), hS.2.2⟩ hL
      rw [qws_new _ _ (fun o k ho => by simp [qz, Nat.ne_of_lt ho])]
      refine (hH.1.kept hkp).app (fun k x hx => ?_)
      have hz0 : k < 1 := (List.getElem?_eq_some_iff.mp hx).1
      rw [show k = 0 by omega] at hx
      cases hx
      rw [← hH0]
      show H1[H.size]? = some (vp_cell ids.1 (z.toNatClampNeg, .inl (qz hp.2 hp.1.length hp.1.length)))
      rw [vp_cell_i]
      rw [show (fun j => Value.int (qz hp.2 hp.1.length hp.1.length j)) = (fun _ => defaultValue .int) from funext fun j => by simp [qz, defaultValue]]
      exact e1
    · cases ho
  · cases ho
theorem ok_newR {t idx : Nat} {C : String} (hd : decode cc pc = .ok (.anewarray idx, 3)) (h1 : Cond.classLink own idx C ∈ wsG) (hC : (t = 0 ∧ C = RX0) ∨ (t = 1 ∧ C = RX2)) : OpOK mt cc own ml rt ini mc ms scr pc (oNewR t mc ms (pc + 3)) := by
  rintro p l e R s m args below meth c D ids sz b d Q ⟨hx, hb, hml, hown, hts, hX, hsz, hlk, hrt, hini⟩ hR hscr ⟨pc0, ls, st, hp, kc, ks⟩ o hpc ho
  cases hpc
  unfold oNewR at ho
  split at ho
  · rename_i pc1 ls1 z st1 hp1 kc1 ks1 heq
    cases heq
    split at ho
    · rename_i hroom
      obtain ⟨g0, g00, g1, g2, g3⟩ := hroom
      cases ho
      intro hkk H locs lsA hz hH hS hL
      show W p l e R s m args below meth c H locs kc ks Q (F0 m pc0 lsA ((.int z :: st1).map (qmv sz b)))
      refine qW_sz (fun hup => ?_)
      have hlo := qHR_lo hH hS hsz
      dsimp only at hz hlo
      have hH0 : H.size = sz + hp.1.length := by omega
      have hover : va_AO C s := by
        rcases hC with ⟨-, rfl⟩ | ⟨-, rfl⟩
        · exact hX.2.1
        · exact hX.2.2.1
      refine W.anew (g := F0 m pc0 lsA (.int z :: st1.map (qmv sz b))) hx hb hown (hts _ h1) (va_AO.use hover) rfl hd rfl g0 (by omega) (by omega) (by omega) fun cA kA comp f1 f2 f3 f4 => ?_
      generalize hH1 : H.push ({ cls := cA, slots := Array.replicate z.toNatClampNeg .null, vm := .none } : Cell) = H1
      have z1 : H1.size = H.size + 1 := by rw [← hH1, Array.size_push]
      have e1 : H1[H.size]? = some (arrV cA z.toNatClampNeg (fun _ => .null)) := by rw [← hH1, Array.getElem?_push_size, ← arrV_new]
      have o1 : ∀ q : Nat, q < H.size → H1[q]? = H[q]? := fun q hq => by rw [← hH1, Array.getElem?_push, if_neg (Nat.ne_of_lt hq)]
      have hcA : cA = if t = 0 then ids.2.1 else ids.2.2 := by
        rcases hC with ⟨ht, rfl⟩ | ⟨ht, rfl⟩
        · obtain ⟨kA', comp', k1, k2, k3, k4⟩ := (hX.1.2 1 (ids.2.1, .object RX0) rfl).2
          rw [if_pos ht]
          exact Option.some.inj (f1.symm.trans k4)
        · obtain ⟨kA', comp', k1, k2, k3, k4⟩ := (hX.1.2 2 (ids.2.2, .object RX2) rfl).2
          rw [if_neg (by omega)]
          exact Option.some.inj (f1.symm.trans k4)
      subst hcA
      have hkp : ∀ (k : Nat) (x : Nat × va_E), (qws ids sz b hp)[k]? = some x → H1[x.1]? = H[x.1]? := fun k x hx => o1 x.1 ((hH.1 k x hx).lt)
      have e2 : F0 m (pc0 + 3) lsA ((Value.ref hp.1.length :: st1).map (qmv sz b)) = { F0 m pc0 lsA (.int z :: st1.map (qmv sz b)) with pc := (F0 m pc0 lsA (.int z :: st1.map (qmv sz b))).pc + 3, stack := .ref H.size :: st1.map (qmv sz b) } := by
        rw [qnewat (b := b) hH0 g3]
        rfl
      rw [← e2]
      refine hkk H1 locs lsA (by dsimp only; rw [List.length_append, List.length_singleton]; omega) ⟨?_, by dsimp only; rw [List.length_append, List.length_singleton]; exact g3⟩ ⟨Nat.le_trans hS.1 (by omega), fun x y1 y2 => (o1 x (Nat.lt_of_lt_of_le y1 hS.1)).trans (hS.2.1 x y1 y2), hS.2.2⟩ hL
      rw [qws_new _ _ (fun o k ho => rfl)]
      refine (hH.1.kept hkp).app (fun k x hx => ?_)
      have hz0 : k < 1 := (List.getElem?_eq_some_iff.mp hx).1
      rw [show k = 0 by omega] at hx
      cases hx
      rw [← hH0]
      show H1[H.size]? = some (vp_cell (if t = 0 then ids.2.1 else ids.2.2) (z.toNatClampNeg, .inr (.inr (.inr (.inr (fun j => ((List.replicate z.toNatClampNeg none).getD j none).map (qad sz b)))))))
      rw [vp_cell_q]
      rw [show (fun j => va_rf (((List.replicate z.toNatClampNeg (none : Option Nat)).getD j none).map (qad sz b))) = (fun _ => Value.null) from funext fun j => by
        rw [List.getD_eq_getElem?_getD, List.getElem?_replicate]
        split <;> rfl]
      exact e1
    · cases ho
  · cases ho
theorem ok_objInit {idx : Nat} (hd : decode cc pc = .ok (.invokespecial idx, 3)) (h1 : Cond.methodLink own idx objectInit ∈ wsG) (h2 : Cond.instanceMethod objectInit ∈ wsG) (h3 : Cond.code objectInit ⟨#[0xb1]⟩ 1 none ∈ wsG) : OpOK mt cc own ml rt ini mc ms scr pc (oObj (pc + 3)) := by
  rintro p l e R s m args below meth c D ids sz b d Q ⟨hx, hb, hml, hown, hts, hX, hsz, hlk, hrt, hini⟩ hR hscr ⟨pc0, ls, st, hp, kc, ks⟩ o hpc ho
  cases hpc
  unfold oObj at ho
  split at ho
  · rename_i pc1 ls1 a st1 h1 heq
    cases heq
    split at ho
    · rename_i hc8
      have hc8 := of_decide_eq_true hc8
      cases ho
      intro hkk H locs lsA hz hH hS hL
      have hcat : ((st1.map (qmv sz b)).map fun v => v.category).sum ≤ 8 := by
        rw [List.map_map, show (fun v => v.category) ∘ qmv sz b = fun v : Value => v.category from funext fun v => qmv_cat sz b v]
        exact hc8
      refine W.objInit (g := F0 m pc0 lsA (.ref (qad sz b a) :: st1.map (qmv sz b))) hx hb hown (hts _ (by assumption)) (hts _ h2) (hts _ h3) rfl (by rw [hml]; exact hL.1.1) rfl hd (by omega) (by show 2 * 0 + _ + 12 ≤ _; omega) ?_
      exact hkk H locs lsA hz hH hS hL
    · cases ho
  · cases ho
theorem ok_copy {idx : Nat} (hd : decode cc pc = .ok (.invokestatic idx, 3)) (h1 : Cond.methodLink own idx arraycopyName ∈ wsG) (h2 : Cond.native arraycopyName ∈ wsG) (h3 : Cond.static arraycopyName ∈ wsG) (h4 : Cond.initialized "java/lang/System" ∈ wsG) : OpOK mt cc own ml rt ini mc ms scr pc (oCopy (pc + 3)) := by
  rintro p l e R s m args below meth c D ids sz b d Q ⟨hx, hb, hml, hown, hts, hX, hsz, hlk, hrt, hini⟩ hR hscr ⟨pc0, ls, st, hp, kc, ks⟩ o hpc ho
  cases hpc
  unfold oCopy at ho
  split at ho
  · rename_i pc1 ls1 z dp a sp a0 st1 hp1 r1 heq
    cases heq
    split at ho
    · rename_i n0 n1 hs0 hs1
      split at ho
      · rename_i hc
        obtain ⟨c1, c2, c3, c4, c5, c6⟩ := hc
        cases ho
        intro hkk H locs lsA hz hH hS hL
        have hcat : ((st1.map (qmv sz b)).map fun v => v.category).sum ≤ 8 := by
          rw [List.map_map, show (fun v => v.category) ∘ qmv sz b = fun v : Value => v.category from funext fun v => qmv_cat sz b v]
          exact c6
        refine W.eq (g2 := F0 m pc0 lsA (.int z :: .int dp :: .ref (sz + a) :: .int sp :: .ref (sz + a0) :: st1.map (qmv sz b))) (by rw [← qad_lt hs0 hH.2, ← qad_lt hs1 hH.2]; rfl) ?_
        refine va_copyi (ty := .int) hx hb (by rw [hml]; exact hL.1.1.symm) hown (hts _ h1) (hts _ h2) (hts _ h3) (hts _ h4) hX.1 hH.1 (qD ids sz b hp) hS a0 a 0 0 (qws_get hs0) (qws_get hs1) rfl rfl rfl c1 c2 c3 c4 c5 (fun _ _ => rfl) (by omega) (by
          have : nativeFrameWords "java/lang/System" "arraycopy" 5 = 7 := by decide +kernel
          rw [this]
          omega) hd (fun H1 locs1 hP1 _ hS1 => ?_)
        refine hkk H1 locs1 lsA hz ⟨?_, hH.2⟩ hS1 hL
        rw [qws_row _ hs1]
        exact hP1
      · cases ho
    · cases ho
  · cases ho
theorem ok_min {idx : Nat} (hd : decode cc pc = .ok (.invokestatic idx, 3)) (h1 : Cond.methodLink own idx Lib.Math.min.name ∈ wsG) (h2 : Cond.static Lib.Math.min.name ∈ wsG) (h3 : Cond.initialized "java/lang/Math" ∈ wsG) (h4 : Cond.code Lib.Math.min.name Lib.Math.min.code 2 (some .int) ∈ wsG) : OpOK mt cc own ml rt ini mc ms scr pc (oMin mc ms (pc + 3)) := by
  rintro p l e R s m args below meth c D ids sz b d Q ⟨hx, hb, hml, hown, hts, hX, hsz, hlk, hrt, hini⟩ hR hscr ⟨pc0, ls, st, hp, kc, ks⟩ o hpc ho
  cases hpc
  unfold oMin at ho
  split at ho
  · rename_i pc1 ls1 y x st1 hp1 kc1 ks1 heq
    cases heq
    split at ho
    · rename_i hc8 hbud
      have hc8 := of_decide_eq_true hc8
      have hbud := of_decide_eq_true hbud
      cases ho
      intro hkk H locs lsA hz hH hS hL
      have hcat : ((st1.map (qmv sz b)).map fun v => v.category).sum ≤ 8 := by
        rw [List.map_map, show (fun v => v.category) ∘ qmv sz b = fun v : Value => v.category from funext fun v => qmv_cat sz b v]
        exact hc8
      exact va_mmin hx hb (by rw [hml]; exact hL.1.1.symm) hown (hts _ h1) (hts _ h2) (hts _ h3) (hts _ h4) (by omega) (by omega) (by show kc ≤ _; omega) (by show ks ≤ _; omega) hd (hkk H locs lsA hz hH hS hL)
    · cases ho
  · cases ho
theorem ok_max {idx : Nat} (hd : decode cc pc = .ok (.invokestatic idx, 3)) (h1 : Cond.methodLink own idx Lib.Math.max.name ∈ wsG) (h2 : Cond.static Lib.Math.max.name ∈ wsG) (h3 : Cond.initialized "java/lang/Math" ∈ wsG) (h4 : Cond.code Lib.Math.max.name Lib.Math.max.code 2 (some .int) ∈ wsG) : OpOK mt cc own ml rt ini mc ms scr pc (oMax mc ms (pc + 3)) := by
  rintro p l e R s m args below meth c D ids sz b d Q ⟨hx, hb, hml, hown, hts, hX, hsz, hlk, hrt, hini⟩ hR hscr ⟨pc0, ls, st, hp, kc, ks⟩ o hpc ho
  cases hpc
  unfold oMax at ho
  split at ho
  · rename_i pc1 ls1 y x st1 hp1 kc1 ks1 heq
    cases heq
    split at ho
    · rename_i hc8 hbud
      have hc8 := of_decide_eq_true hc8
      have hbud := of_decide_eq_true hbud
      cases ho
      intro hkk H locs lsA hz hH hS hL
      have hcat : ((st1.map (qmv sz b)).map fun v => v.category).sum ≤ 8 := by
        rw [List.map_map, show (fun v => v.category) ∘ qmv sz b = fun v : Value => v.category from funext fun v => qmv_cat sz b v]
        exact hc8
      exact va_mmax hx hb (by rw [hml]; exact hL.1.1.symm) hown (hts _ h1) (hts _ h2) (hts _ h3) (hts _ h4) (by omega) (by omega) (by show kc ≤ _; omega) (by show ks ≤ _; omega) hd (hkk H locs lsA hz hH hS hL)
    · cases ho
  · cases ho
theorem ok_retI (hd : decode cc pc = .ok (.ireturn, 1)) (hr : rt = some .int) : OpOK mt cc own ml rt ini mc ms scr pc oRetI := by
  rintro p l e R s m args below meth c D ids sz b d Q ⟨hx, hb, hml, hown, hts, hX, hsz, hlk, hrt, hini⟩ hR hscr ⟨pc0, ls, st, hp, kc, ks⟩ o hpc ho
  cases hpc
  unfold oRetI at ho
  split at ho
  · rename_i heq
    cases heq
    cases ho
    refine ⟨rfl, fun y hy => by cases hy; exact ⟨rfl, hd⟩, fun Qc free H locs lsA k n hq hf => ?_⟩
    exact W.iret hx hb (hrt.trans hr) hq hf hd hlk
  · cases ho
theorem ok_retZ (hd : decode cc pc = .ok (.ireturn, 1)) (hr : rt = some .boolean) : OpOK mt cc own ml rt ini mc ms scr pc oRetZ := by
  rintro p l e R s m args below meth c D ids sz b d Q ⟨hx, hb, hml, hown, hts, hX, hsz, hlk, hrt, hini⟩ hR hscr ⟨pc0, ls, st, hp, kc, ks⟩ o hpc ho
  cases hpc
  unfold oRetZ at ho
  split at ho
  · rename_i heq
    cases heq
    split at ho
    · rename_i hv
      cases ho
      refine ⟨rfl, fun y hy => by cases hy; exact ⟨rfl, hd⟩, fun Qc free H locs lsA k n hq hf => ?_⟩
      exact W.zret hx hb (hrt.trans hr) (by rcases hv with rfl | rfl <;> rfl) hq hf hd hlk
    · cases ho
  · cases ho
theorem ok_retV (hd : decode cc pc = .ok (.return_, 1)) (hr : rt = none) : OpOK mt cc own ml rt ini mc ms scr pc oRetV := by
  rintro p l e R s m args below meth c D ids sz b d Q ⟨hx, hb, hml, hown, hts, hX, hsz, hlk, hrt, hini⟩ hR hscr ⟨pc0, ls, st, hp, kc, ks⟩ o hpc ho
  cases hpc
  unfold oRetV at ho
  split at ho
  · rename_i heq
    cases heq
    cases ho
    refine ⟨rfl, fun y hy => (by cases hy), fun Qc free H locs lsA k n hq hf => ?_⟩
    exact W.vret hx hb (hrt.trans hr) hq hf hd hlk
  · cases ho
end OK5

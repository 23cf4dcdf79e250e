/-! ===== the constructors by evaluation; the law's run out of its loop ===== -/
def rnF (call : Nat → List Value → qH → Option (Option Value × qH)) (cd : List (Nat × qOp)) : Nat → qC → Option (Option Value × qC)
  | 0, _ => none
  | n + 1, c => match cd.lookup c.1 with
    | none => none
    | some op => match op c with
      | none => none
      | some (.inl c') => rnF call cd n c'
      | some (.inr (.inl q)) => match call q.1 q.2.1 q.2.2.2.2.2.1 with
        | none => none
        | some w => rnF call cd n (q.2.2.1, q.2.2.2.1, w.1.toList ++ q.2.2.2.2.1, w.2, q.2.2.2.2.2.2)
      | some (.inr (.inr x)) => some x
theorem rnF_sound {callF : Nat → List Value → qH → Option (Option Value × qH)} {call : Nat → List Value → qH → Option Value → qH → Prop} (hc : ∀ y as hp w, callF y as hp = some w → call y as hp w.1 w.2) {cd : List (Nat × qOp)} {r : Option Value × qC} :
    ∀ (n : Nat) (c : qC), rnF callF cd n c = some r → Rn call cd n c r := by
  intro n
  induction n with
  | zero => intro c h; cases h
  | succ n ih =>
    intro c h
    refine Or.inr ?_
    unfold rnF at h
    cases hl : cd.lookup c.1 with
    | none => rw [hl] at h; cases h
    | some op =>
      rw [hl] at h
      dsimp only at h ⊢
      cases ho : op c with
      | none => rw [ho] at h; cases h
      | some o =>
        rw [ho] at h
        rcases o with c' | q | x
        · exact ih _ h
        · dsimp only at h ⊢
          cases hq : callF q.1 q.2.1 q.2.2.2.2.2.1 with
          | none => rw [hq] at h; cases h
          | some w =>
            rw [hq] at h
            exact ⟨w.1, w.2, hc _ _ _ _ hq, ih _ h⟩
        · exact Option.some.inj h
def exF : Nat → Nat → List Value → qH → Option (Option Value × qH)
  | 0, _, _, _ => none
  | d + 1, y, as, hp => match qMT[y]?, qCD[y]? with
    | some t, some k => if (qEnt as).length ≤ t.2.2.1 then match rnF (exF d) k 4000 (0, qEn t.2.2.1 as, [], hp, 0, 0) with
        | some (v, c) => if c.2.2.2.1.1.length = hp.1.length + t.2.2.2.2.1 ∧ c.2.2.2.2.1 ≤ t.2.2.2.2.1 ∧ c.2.2.2.2.2 ≤ t.2.2.2.2.2 then some (v, c.2.2.2.1) else none
        | none => none
      else none
    | _, _ => none
theorem exF_sound : ∀ (d y : Nat) (as : List Value) (hp : qH) (w : Option Value × qH), exF d y as hp = some w → Ex qMT qCD d y as hp w.1 w.2 := by
  intro d
  induction d with
  | zero => intro y as hp w h; cases h
  | succ d ih =>
    intro y as hp w h
    unfold exF at h
    cases ht : qMT[y]? with
    | none => rw [ht] at h; cases h
    | some t =>
      cases hk : qCD[y]? with
      | none => rw [ht, hk] at h; cases h
      | some k =>
        rw [ht, hk] at h
        dsimp only at h
        split at h
        · rename_i hl
          split at h
          · rename_i v c hr
            split at h
            · rename_i hb
              cases h
              exact ⟨t, k, 4000, c, ht, hk, hl, rnF_sound (fun y as hp w hw => ih y as hp w hw) _ _ hr, rfl, hb.1, hb.2.1, hb.2.2⟩
            · cases h
          · cases h
        · cases h
def ini5 : Option (Option Value × qH) := exF 6 54 [.ref 0] ([.inl (5, [some none, some none, none, some none, some none, some none, some none])], qz (fun _ _ => 0) 0)
theorem ini5_ok1 : ini5.map (fun r => r.1.isNone) = some true := by decide +kernel
theorem ini5_ok2 : (ini5.map (fun r => r.2.1)).getD [] = SH.take 60 := by decide +kernel
def num5 : qN := match ini5 with
  | some r => r.2.2
  | none => fun _ _ => 0
theorem ini5_is : ini5 = some (none, (SH.take 60, num5)) := by
  have h := ini5_ok1
  have h2 := ini5_ok2
  unfold num5
  cases hi : ini5 with
  | none => rw [hi] at h; cases h
  | some r =>
    rw [hi] at h h2
    obtain ⟨v, sh, nm⟩ := r
    cases v with
    | some w => cases h
    | none =>
      have h3 : sh = _ := h2
      subst h3
      rfl
def ini6 : Option (Option Value × qH) := exF 6 103 [.ref 60] (SH.take 60 ++ [.inl (6, [some none, some none, some none, none, some none, some none, none, some none, some none, none, none, some none, none, none, none, some none, some none, some none, some none, none, some none, some none, none, some none, none, some none, some none, some none, some none])], qz num5 60)
theorem ini6_ok1 : ini6.map (fun r => r.1.isNone) = some true := by decide +kernel
theorem ini6_ok2 : (ini6.map (fun r => r.2.1)).getD [] = SH := by decide +kernel
def num0 : qN := match ini6 with
  | some r => r.2.2
  | none => fun _ _ => 0
theorem ini6_is : ini6 = some (none, (SH, num0)) := by
  have h := ini6_ok1
  have h2 := ini6_ok2
  unfold num0
  cases hi : ini6 with
  | none => rw [hi] at h; cases h
  | some r =>
    rw [hi] at h h2
    obtain ⟨v, sh, nm⟩ := r
    cases v with
    | some w => cases h
    | none =>
      have h3 : sh = _ := h2
      subst h3
      rfl
theorem Rn_mono {call call' : Nat → List Value → qH → Option Value → qH → Prop} (hc : ∀ y as hp v h1, call y as hp v h1 → call' y as hp v h1) {cd : List (Nat × qOp)} {r : Option Value × qC} : ∀ (n : Nat) (c : qC), Rn call cd n c r → Rn call' cd n c r := by
  intro n
  induction n with
  | zero => intro c h; exact h
  | succ n ih =>
    intro c h
    rcases h with ⟨mask, h⟩ | h
    · exact Or.inl ⟨mask, ih _ h⟩
    · refine Or.inr ?_
      cases hl : cd.lookup c.1 with
      | none => rw [hl] at h; exact h.elim
      | some op =>
        rw [hl] at h
        dsimp only at h ⊢
        cases ho : op c with
        | none => rw [ho] at h; exact h.elim
        | some o =>
          rw [ho] at h
          rcases o with c' | q | x
          · exact ih _ h
          · obtain ⟨v, h1, a, b⟩ := h
            exact ⟨v, h1, hc _ _ _ _ _ a, ih _ b⟩
          · exact h
theorem Ex_up {mt : List qM} {cds : List (List (Nat × qOp))} : ∀ (d y : Nat) (as : List Value) (hp : qH) (v : Option Value) (h1 : qH), Ex mt cds d y as hp v h1 → Ex mt cds (d + 1) y as hp v h1 := by
  intro d
  induction d with
  | zero => intro y as hp v h1 h; exact absurd h (by simp [Ex])
  | succ d ih =>
    intro y as hp v h1 h
    obtain ⟨t, k, n, c, a1, a2, a3, a4, a5⟩ := h
    exact ⟨t, k, n, c, a1, a2, a3, Rn_mono (fun y as hp v h1 hh => ih y as hp v h1 hh) _ _ a4, a5⟩
theorem Ex_le {mt : List qM} {cds : List (List (Nat × qOp))} {d e y : Nat} {as : List Value} {hp : qH} {v : Option Value} {h1 : qH} (h : Ex mt cds d y as hp v h1) (hle : d ≤ e) : Ex mt cds e y as hp v h1 := by
  obtain ⟨k, rfl⟩ : ∃ k, e = d + k := ⟨e - d, by omega⟩
  clear hle
  induction k with
  | zero => exact h
  | succ k ih => exact Ex_up _ _ _ _ _ _ ih
theorem Rn_go {call : Nat → List Value → qH → Option Value → qH → Prop} {cd : List (Nat × qOp)} {c c' : qC} {r : Option Value × qC} {op : qOp} (hl : cd.lookup c.1 = some op) (ho : op c = some (.inl c')) (h : ∃ n, Rn call cd n c' r) : ∃ n, Rn call cd n c r := by
  obtain ⟨n, h⟩ := h
  refine ⟨n + 1, Or.inr ?_⟩
  rw [hl]
  dsimp only
  rw [ho]
  exact h
theorem Rn_call {call : Nat → List Value → qH → Option Value → qH → Prop} {cd : List (Nat × qOp)} {c : qC} {q : qQ} {r : Option Value × qC} {op : qOp} {v : Option Value} {h1 : qH} (hl : cd.lookup c.1 = some op) (ho : op c = some (.inr (.inl q))) (hc : call q.1 q.2.1 q.2.2.2.2.2.1 v h1) (h : ∃ n, Rn call cd n (q.2.2.1, q.2.2.2.1, v.toList ++ q.2.2.2.2.1, h1, q.2.2.2.2.2.2) r) : ∃ n, Rn call cd n c r := by
  obtain ⟨n, h⟩ := h
  refine ⟨n + 1, Or.inr ?_⟩
  rw [hl]
  dsimp only
  rw [ho]
  exact ⟨v, h1, hc, h⟩
set_option maxRecDepth 100000 in
/-- the law's run: it is enough that the loop's function comes through -/
theorem law_of {L : Nat} {xs : Nat → Int32} {N n : Nat} {h' : qN} (hrun : f_L_law_L18 N L xs n 0 num0 = some (.inr h')) : qLawRuns L xs := by
  have main : RR 800 (cd_law L xs) (80, 1230) 18 [.ref qSCR, .ref 0, .ref 60, .int 0] [] num0 (some (.int 1)) h' := by
    refine t_L_law_L18 (d := 800) (N := N) (by omega) n L xs 0 num0 _ hrun _ _ (fun rv rh he => by cases he) (fun h2 he => ?_)
    obtain rfl := Sum.inr.inj he
    refine R_I rfl ?_
    exact R_retZ rfl (Or.inr rfl)
  have hh : ∃ n, Rn (Ex qMT qCD 800) (cd_law L xs) n (0, [.ref qSCR, qU, qU, qU], [], ([], fun _ _ => 0), 0, 0) (some (.int 1), main.choose_spec.choose) := by
    refine Rn_go (c' := (3, [.ref qSCR, qU, qU, qU], [.ref 0], ([.inl (5, [some none, some none, none, some none, some none, some none, some none])], qz (fun _ _ => 0) 0), 1, 7)) rfl rfl ?_
    refine Rn_go (c' := (4, [.ref qSCR, qU, qU, qU], [.ref 0, .ref 0], ([.inl (5, [some none, some none, none, some none, some none, some none, some none])], qz (fun _ _ => 0) 0), 1, 7)) rfl rfl ?_
    refine Rn_call (v := none) (h1 := (SH.take 60, num5)) (q := (54, [.ref 0], (7, [.ref qSCR, qU, qU, qU], [.ref 0], ([.inl (5, [some none, some none, none, some none, some none, some none, some none])], qz (fun _ _ => 0) 0), 60, 695))) rfl rfl (Ex_le (exF_sound 6 _ _ _ _ ini5_is) (by omega)) ?_
    refine Rn_go (c' := (8, [.ref qSCR, .ref 0, qU, qU], [], (SH.take 60, num5), 60, 695)) rfl rfl ?_
    refine Rn_go (c' := (11, [.ref qSCR, .ref 0, qU, qU], [.ref 60], (SH.take 60 ++ [.inl (6, [some none, some none, some none, none, some none, some none, none, some none, some none, none, none, some none, none, none, none, some none, some none, some none, some none, none, some none, some none, none, some none, none, some none, some none, some none, some none])], qz num5 60), 61, 724)) rfl rfl ?_
    refine Rn_go (c' := (12, [.ref qSCR, .ref 0, qU, qU], [.ref 60, .ref 60], (SH.take 60 ++ [.inl (6, [some none, some none, some none, none, some none, some none, none, some none, some none, none, none, some none, none, none, none, some none, some none, some none, some none, none, some none, some none, none, some none, none, some none, some none, some none, some none])], qz num5 60), 61, 724)) rfl rfl ?_
    refine Rn_call (v := none) (h1 := (SH, num0)) (q := (103, [.ref 60], (15, [.ref qSCR, .ref 0, qU, qU], [.ref 60], (SH.take 60 ++ [.inl (6, [some none, some none, some none, none, some none, some none, none, some none, some none, none, none, some none, none, none, none, some none, some none, some none, some none, none, some none, some none, none, some none, none, some none, some none, some none, some none])], qz num5 60), 80, 1230))) rfl rfl (Ex_le (exF_sound 6 _ _ _ _ ini6_is) (by omega)) ?_
    refine Rn_go (c' := (16, [.ref qSCR, .ref 0, .ref 60, qU], [], (SH, num0), 80, 1230)) rfl rfl ?_
    refine Rn_go (c' := (17, [.ref qSCR, .ref 0, .ref 60, qU], [.int 0], (SH, num0), 80, 1230)) rfl rfl ?_
    refine Rn_go (c' := (18, [.ref qSCR, .ref 0, .ref 60, .int 0], [], (SH, num0), 80, 1230)) rfl rfl ?_
    exact ⟨_, main.choose_spec.choose_spec.1⟩
  obtain ⟨n, hn⟩ := hh
  have hfin := main.choose_spec.choose_spec.2
  refine ⟨n, main.choose_spec.choose, hn, ?_, ?_⟩
  · rw [show main.choose_spec.choose.2.2.2.2 = (80, 1230) from congrArg Prod.snd hfin]
    exact Nat.le_of_ble_eq_true rfl
  · rw [show main.choose_spec.choose.2.2.2.2 = (80, 1230) from congrArg Prod.snd hfin]
    exact Nat.le_of_ble_eq_true rfl

theorem llW {w : Cond} (h : w ∈ ([.methodLink RL 7 yX9_led, .code yX9_led cX9_led 4 (some .int), .initialized RX9, .instanceMethod yX9_led, .selects RX9 yX9_led yX9_led, .classLink RL 13 nseN, .codeWith yL_led cL_led 4 (some .int) [(0, 9, 12, 13)], .methodLink RL 215 yL_led, .static yL_led, .initialized RL] : List Cond)) : w ∈ wsA := inA (llW_in w h).1 (llW_in w h).2
/-- LotLedgerLaw.led answers 0, and the sell's number is told; or 1 -/
def kLl (P0 P1 : qA → qS → Prop) : qK := fun v A' S' => (v = some (.int 0) ∧ P0 A' S') ∨ (v = some (.int 1) ∧ P1 A' S')
def PcK (b0 : Nat) (H0 : Heap) (D : va_G) (cy : Nat → ClassId) (ad adV : Nat → Nat) (sa : Nat) (A : qA) (S : qS) (args : List Value) : Array Value → State → Prop := fun a U => PcM b0 H0 D cy ad adV A S args a U ∧ AmK b0 H0 sa U
theorem PcK_blind {b0 : Nat} {H0 : Heap} {D : va_G} {cy : Nat → ClassId} {ad adV : Nat → Nat} {sa : Nat} {A : qA} {S : qS} {as : List Value} : FrameBlind (PcK b0 H0 D cy ad adV sa A S as) := fun a U g mk h => ⟨PcM_blind a U g mk h.1, h.2.same rfl⟩
set_option maxHeartbeats 2000000 in
theorem lled_met {l : Launch} (hst : l.stackTraces = false) {b0 : Nat} {H0 : Heap} {D : va_G} {cy : Nat → ClassId} {ad adV : Nat → Nat} {sa a o n : Nat} {i : Int32} {A : qA} {S : qS} {P0 P1 : qA → qS → Prop} (ha : A.1 a = some (9, 0)) (ho : A.1 o = some (14, n)) (hn : 0 < n)
    (h : Run 13 ledId [.ref a, .int i] A S (kLed A (fun A1 S1 t => P0 A1 (uL S1 o 0 t.toInt64)) P1)) :
    Met l yL_led (Cond.codeWith yL_led cL_led 4 (some .int) [(0, 9, 12, 13)] :: wsA) { frames := 14, cells := 1, slots := 8, locals := 560 } (PcK b0 H0 D cy ad adV sa A S [.ref a, .int i, .ref o]) (QcM b0 H0 D cy ad A (1, 8) (kLl P0 P1)) 1 8 (fun q => b0 ≤ q) := by
  refine va_MetW (cc := cL_led) (maxL := 4) (ret := some .int) (by decide) rfl ?_
  intro p e s m args' below meth c s₁ B hml hv
  obtain ⟨⟨rfl, hH, hamb⟩, hAm⟩ := hv
  have hts0 := atoms_spec (ws := Cond.codeWith yL_led cL_led 4 (some .int) [(0, 9, 12, 13)] :: wsA) B.pre
  have hX : MX p (headSpec (Cond.codeWith yL_led cL_led 4 (some .int) [(0, 9, 12, 13)] :: wsA) { frames := 14, cells := 1, slots := 8, locals := 560 }).room s m ([.ref a, .int i, .ref o] : List Value).toArray meth c RL cL_led 4 b0 H0 D cy ad adV A.2.2.1 A.2.2.2 (A.2.2.1 + 1, A.2.2.2 + 8) :=
    ⟨B.exec, B.bytes, hml, findClass_of_methodNamed B.named, fun w hw => hts0 w (List.mem_cons_of_mem _ hw), hamb, by show 1 = _; dsimp only; omega, by show 8 = _; dsimp only; omega, by show 1 ≤ 14; omega, by show 40 ≤ 560; omega, hH.2.1, hH.2.2.1⟩
  have htab : c.exceptionTable.toList = [⟨0, 9, 12, 13⟩] := vx_table (x := yL_led) B (hts0 _ List.mem_cons_self)
  generalize hR : (headSpec (Cond.codeWith yL_led cL_led 4 (some .int) [(0, 9, 12, 13)] :: wsA) { frames := 14, cells := 1, slots := 8, locals := 560 }).room = R at hX ⊢
  have hRf : R.frames = 14 := by rw [← hR]; rfl
  have hRl : R.locals = 560 := by rw [← hR]; rfl
  have hret := B.returns
  have hlk := B.notSynchronized
  clear hts0
  -- one instruction
  have go : ∀ {pc : Nat} {sm : qM}, Okn RL cL_led 4 False RnOk pc sm → ∀ (ls : qL) (st : List Value) (A1 : qA) (S1 : qS), sm (fun _ _ _ _ _ => False) (fun _ _ _ => False) (A.2.2.1 + 1, A.2.2.2 + 8) pc ls st A1 S1 (MJ p l e R s m ([.ref a, .int i, .ref o] : List Value).toArray below meth c (MQ below (QcM b0 H0 D cy ad A (1, 8) (kLl P0 P1)) ([.ref a, .int i, .ref o] : List Value).toArray s 1 8 (fun q => b0 ≤ q)) b0 H0 D cy ad A.2.2.1 A.2.2.2 (A.2.2.1 + 1, A.2.2.2 + 8)) →
      MJ p l e R s m ([.ref a, .int i, .ref o] : List Value).toArray below meth c (MQ below (QcM b0 H0 D cy ad A (1, 8) (kLl P0 P1)) ([.ref a, .int i, .ref o] : List Value).toArray s 1 8 (fun q => b0 ≤ q)) b0 H0 D cy ad A.2.2.1 A.2.2.2 (A.2.2.1 + 1, A.2.2.2 + 8) pc ls st A1 S1 :=
    fun hok ls st A1 S1 hs => hok p l e R s m _ below meth c _ b0 H0 D cy ad adV _ _ _ (fun _ _ _ => False) (fun _ _ _ _ _ => False) _ hX (fun z => z.elim) (fun _ _ _ _ _ z => z.elim) (fun _ _ _ _ _ z => z) ls st A1 S1 hs
  -- the two ends
  have fin : ∀ (pc : Nat) (v : Int32) (ls : qL) (A1 : qA) (S1 : qS), decode cL_led pc = .ok (.ireturn, 1) → kLl P0 P1 (some (.int v)) A1 S1 → A1.2.2.1 = A.2.2.1 + 1 → A1.2.2.2 = A.2.2.2 + 8 →
      MJ p l e R s m ([.ref a, .int i, .ref o] : List Value).toArray below meth c (MQ below (QcM b0 H0 D cy ad A (1, 8) (kLl P0 P1)) ([.ref a, .int i, .ref o] : List Value).toArray s 1 8 (fun q => b0 ≤ q)) b0 H0 D cy ad A.2.2.1 A.2.2.2 (A.2.2.1 + 1, A.2.2.2 + 8) pc ls [.int v] A1 S1 := by
    intro pc v ls A1 S1 hd hk h1 h2 g1 g2 g3 g4 H locs arr hH1 hS1 hl1
    rw [show A1.2.2.1 - A.2.2.1 = 1 by omega, show A1.2.2.2 - A.2.2.2 = 8 by omega]
    exact W.iret hX.1 hX.2.1 hret (fun t ht hW => ⟨_, A1, S1, rfl, hk, h1, h2, by rw [ht]; exact hH1, by rw [ht]; exact hS1.1⟩) (fun q hq => hS1.2.2 q hq) hd hlk
  have hJ : MJ p l e R s m ([.ref a, .int i, .ref o] : List Value).toArray below meth c (MQ below (QcM b0 H0 D cy ad A (1, 8) (kLl P0 P1)) ([.ref a, .int i, .ref o] : List Value).toArray s 1 8 (fun q => b0 ≤ q)) b0 H0 D cy ad A.2.2.1 A.2.2.2 (A.2.2.1 + 1, A.2.2.2 + 8) 0 [some (.ref a), some (.int i), some (.ref o), none] [] A S := by
    refine go (ok_ald_n (k := 2) (i := 2) (by decide +kernel) rfl) _ _ _ _ ?_
    refine go (ok_iconst (n := 0) (v := 0) (by decide +kernel) rfl) _ _ _ _ ?_
    refine go (ok_ald_n (k := 0) (i := 0) (by decide +kernel) rfl) _ _ _ _ ?_
    refine go (ok_ild_n (k := 1) (i := 1) (by decide +kernel) rfl) _ _ _ _ ?_
    intro g1 g2 g3 g4 H locs arr hH1 hS1 hl1
    rw [Nat.sub_self, Nat.sub_self]
    have hp : PreV s H RX9 a (PcL b0 H0 D cy ad adV sa A S [.ref a, .int i]) [.int i] := ⟨PcL_blind, q_recv hX hH1 ha cls9, fun U hU hW => ⟨⟨rfl, by rw [hU]; exact hH1, hX.2.2.2.2.2.1.warm hW⟩, hAm.1.warm hW⟩⟩
    have F : CallFix p m c cL_led 4 s ([.ref a, .int i, .ref o] : List Value).toArray wsA RL := ⟨hX.1, hX.2.1, hX.2.2.1, hX.2.2.2.1, hX.2.2.2.2.1⟩
    have hcb : CallB R s ([.ref a, .int i, .ref o] : List Value).toArray RL 7 yX9_led cX9_led 4 (some .int) (Cond.code yX9_led cX9_led 4 (some .int) :: wsA) { frames := 13, cells := 1, slots := 8, locals := 40 * 13 } 1 8 1 :=
      callB_of 1 hX.2.2.2.2.1 (fun w hw => by
        rcases List.mem_cons.mp hw with rfl | h9
        · exact ⟨llW (by simp), wsA_good _ (llW (by simp))⟩
        · exact ⟨h9, wsA_good _ h9⟩) rfl rfl rfl (hX.2.2.2.2.1 _ (show Cond.initialized RX9 ∈ wsA from llW (by simp))) (hX.2.2.2.2.1 _ (llW (by simp))) ⟨by decide, by decide, by decide +kernel⟩ ⟨by rw [hRf]; decide, by rw [hRl]; decide⟩
    have hrun := vx_runV (e := e) (below := below) (meth := meth) (locs := locs) (cells := 0) (slots := 0) (g := F0 m 4 arr [.int i, .ref a, .int 0, .ref o]) (rest := [.int 0, .ref o]) (As := [.int i]) F (led_met hst (b0 := b0) (H0 := H0) (D := D) (cy := cy) (ad := ad) (adV := adV) (sa := sa) (d := 12) (by omega) h) ⟨hcb, hX.2.2.2.2.1 _ (llW (by simp)), hX.2.2.2.2.1 _ (llW (by simp))⟩ hp rfl rfl (hl1.2.1.trans hml) rfl (by show 2 * 0 + (1 + (1 + 0)) ≤ 8; omega) (show decode cL_led 4 = _ from by decide +kernel)
      ⟨by rw [hX.2.2.2.2.2.2.1]; dsimp only; omega, by rw [hX.2.2.2.2.2.2.2.1]; dsimp only; omega⟩
    refine q_runX hX hrun hS1 ?_ ?_
    · intro r A' S' H' locs' hK hc hs hH' hS'
      obtain ⟨q1, q2, q3, q4, q5⟩ := hK
      rcases q5 with ⟨t, ht, hP⟩ | ⟨hbad, -⟩
      · cases ht
        have hj : MJ p l e R s m ([.ref a, .int i, .ref o] : List Value).toArray below meth c (MQ below (QcM b0 H0 D cy ad A (1, 8) (kLl P0 P1)) ([.ref a, .int i, .ref o] : List Value).toArray s 1 8 (fun q => b0 ≤ q)) b0 H0 D cy ad A.2.2.1 A.2.2.2 (A.2.2.1 + 1, A.2.2.2 + 8) 7 [some (.ref a), some (.int i), some (.ref o), none] [.int r, .int 0, .ref o] A' S' := by
          refine go (ok_i2l (by decide +kernel)) _ _ _ _ ?_
          refine go (ok_last (by decide +kernel)) _ _ _ _ ⟨n, by rw [q1]; exact ho, ?_, fun T hT => ?_⟩
          · intro hz
            rcases hz with hz | hz
            · exact absurd hz (by decide)
            · have h0 : (0 : Int32).toNatClampNeg = 0 := rfl
              omega
          subst hT
          refine go (ok_goto (off := 6) (t := 15) (by decide +kernel) (by decide)) _ _ _ _ ?_
          refine go (ok_iconst (n := 0) (v := 0) (by decide +kernel) rfl) _ _ _ _ ?_
          exact fin 16 0 _ A' _ (by decide +kernel) (Or.inl ⟨rfl, hP⟩) hc hs
        have := hj (by omega) (by omega) (by dsimp only; omega) (by dsimp only; omega) H' locs' arr hH' hS' hl1
        rw [show A'.2.2.1 - A.2.2.1 = 0 + 1 by omega, show A'.2.2.2 - A.2.2.2 = 0 + 8 by omega] at this
        exact this
      · cases hbad
    · intro q ce A' S' H' locs' hK hc hs hH' hS' hce hcv hcl
      obtain ⟨q1, q2, q3, q4, q5⟩ := hK
      rcases q5 with ⟨t, ht, -⟩ | ⟨-, hP⟩
      · cases ht
      · refine cat_one (own := RL) (name := nseN) (E := nseN) hX.2.2.2.1 htab (by decide) (by decide) (hX.2.2.2.2.1 _ (llW (by simp))) (va_tabs rfl rfl hAm.2) hce hcv hcl ?_
        have hj : MJ p l e R s m ([.ref a, .int i, .ref o] : List Value).toArray below meth c (MQ below (QcM b0 H0 D cy ad A (1, 8) (kLl P0 P1)) ([.ref a, .int i, .ref o] : List Value).toArray s 1 8 (fun q => b0 ≤ q)) b0 H0 D cy ad A.2.2.1 A.2.2.2 (A.2.2.1 + 1, A.2.2.2 + 8) 12 [some (.ref a), some (.int i), some (.ref o), none] [.ref q] A' S' := by
          refine go (ok_ast_n (k := 3) (i := 3) (by decide +kernel) rfl (by decide)) _ _ _ _ ?_
          refine go (ok_iconst (n := 1) (v := 1) (by decide +kernel) rfl) _ _ _ _ ?_
          exact fin 14 1 _ A' S' (by decide +kernel) (Or.inr ⟨rfl, hP⟩) hc hs
        have := hj (by omega) (by omega) (by dsimp only; omega) (by dsimp only; omega) H' locs' arr hH' hS' hl1
        rw [show A'.2.2.1 - A.2.2.1 = 0 + 1 by omega, show A'.2.2.2 - A.2.2.2 = 0 + 8 by omega] at this
        exact this
  have hl := lv_entry ([.ref a, .int i, .ref o] : List Value) (n := 4) (by rw [lg_iniA]; exact Nat.le_of_ble_eq_true rfl)
  have hw := hJ (Nat.le_refl _) (Nat.le_refl _) (Nat.le_add_right _ _) (Nat.le_add_right _ _) s.heap [] ((lg_sl ([.ref a, .int i, .ref o] : List Value) ++ List.replicate (4 - (lg_sl ([.ref a, .int i, .ref o] : List Value)).length) Slot.unset).toArray) hH va_S.rf ⟨by rw [hml]; rfl, by rw [hml]; exact hl.1, hl.2.1, fun k v hk => by
    have h1 := lget_iniA ([.ref a, .int i, .ref o] : List Value) 0 k v (lget_pad 4 _ k v (show lget (pad 4 (iniA ([.ref a, .int i, .ref o] : List Value))) k = some v from hk))
    rw [Nat.zero_add] at h1
    exact hl.2.2 _ h1⟩
  rw [Nat.sub_self, Nat.sub_self] at hw
  rw [lg_entry_eq]
  exact hw

/-! trades that are drawn: booked behind the whole -/
theorem inp_c {D D' : Nat → Int32} {Q : List Nat} {t : Nat} (ht : D t = D' t) : ∀ n, (∀ i, i < n → D (ot Q i) = D' (ot Q i)) → inp D Q t n = inp D' Q t n
  | 0, _ => rfl
  | n + 1, h => by rw [inp, inp, h n (by omega), ht, inp_c ht n (fun i hi => h i (by omega))]
theorem ordL_c {D D' : Nat → Int32} : ∀ n, (∀ i, i < n → D i = D' i) → ordL D n = ordL D' n
  | 0, _ => rfl
  | n + 1, h => by
    have e := ordL_c (D := D) (D' := D') n (fun i hi => h i (by omega))
    have e2 : inp D (ordL D n) n n = inp D' (ordL D' n) n n := by
      rw [← e]
      exact inp_c (h n (by omega)) n (fun i hi => h _ (by have := ordL_ot (D := D) (n := n) hi; omega))
    rw [ordL, ordL, e2, e]
theorem inp_all {D : Nat → Int32} {Q : List Nat} {t : Nat} : ∀ n, (∀ i, i < n → D (ot Q i) ≤ D t) → inp D Q t n = n
  | 0, _ => rfl
  | n + 1, h => by rw [inp, if_pos (h n (by omega))]
theorem ordL_end {D : Nat → Int32} {n : Nat} (h : ∀ i, i < n → D i ≤ D n) : ordL D (n + 1) = ordL D n ++ [n] := by
  rw [ordL, inp_all n (fun i hi => h _ (ordL_ot hi)), List.take_of_length_le (by rw [ordL_len]; omega), List.drop_eq_nil_of_le (by rw [ordL_len]; omega)]
theorem aGo_cons {w last : Int32} {T : List Row} {p t : Nat} {Q : List Nat} {s : PSt} : aGo w last T p (t :: Q) s = aGo w last T p Q (if paF (tr T t) = p ∧ dayF T t ≤ last then aStep w T t s else s) := by
  rw [aGo]
  split <;> rfl
theorem aGo_app {w last : Int32} {T : List Row} {p : Nat} : ∀ (Q R : List Nat) (s : PSt), aGo w last T p (Q ++ R) s = aGo w last T p R (aGo w last T p Q s)
  | [], R, s => rfl
  | t :: Q, R, s => by rw [List.cons_append, aGo_cons, aGo_cons, aGo_app Q R]
theorem aGo_c {w last : Int32} {T T' : List Row} {p : Nat} : ∀ (Q : List Nat) (s : PSt), (∀ t, t ∈ Q → tr T t = tr T' t) → aGo w last T p Q s = aGo w last T' p Q s
  | [], _, _ => rfl
  | t :: Q, s, h => by
    rw [aGo_cons, aGo_cons, aGo_c Q _ (fun t ht => h t (List.mem_cons_of_mem _ ht))]
    unfold aStep dayF
    rw [h t List.mem_cons_self]
theorem aRes_end {w last : Int32} {T : List Row} {r : Row} {p : Nat} (hd : ∀ i, i < T.length → dayF T i ≤ r.2.2.1) (hl : r.2.2.1 ≤ last) : aRes w last (T ++ [r]) p = if paF r = p then aStep w (T ++ [r]) T.length (aRes w last T p) else aRes w last T p := by
  have e : aGo w last (T ++ [r]) p (ordL (dayF (T ++ [r])) T.length) p0 = aRes w last T p := by
    unfold aRes qT
    rw [ordL_c T.length (D' := dayF T) (fun i hi => by unfold dayF; rw [tr_app hi])]
    exact aGo_c _ _ (fun t ht => tr_app (ordL_lt _ _ _ ht))
  have e0 : aRes w last (T ++ [r]) p = aGo w last (T ++ [r]) p (ordL (dayF (T ++ [r])) (T.length + 1)) p0 := by
    unfold aRes qT
    rw [List.length_append, List.length_singleton]
  rw [e0, ordL_end (fun i hi => by unfold dayF; rw [tr_app hi, tr_end]; exact hd i hi), aGo_app, e, aGo_cons, tr_end, show dayF (T ++ [r]) T.length = r.2.2.1 by unfold dayF; rw [tr_end]]
  by_cases c : paF r = p
  · rw [if_pos ⟨c, hl⟩, if_pos c]; rfl
  · rw [if_neg (fun z => c z.1), if_neg c]; rfl
theorem aRes_up {w last : Int32} {T : List Row} {r : Row} (hd : ∀ i, i < T.length → dayF T i ≤ r.2.2.1) (hl : r.2.2.1 ≤ last) : aRes w last (T ++ [r]) = upA (aRes w last T) (paF r) (aStep w (T ++ [r]) T.length (aRes w last T (paF r))) := by
  funext p
  rw [aRes_end hd hl]
  by_cases c : paF r = p
  · rw [if_pos c, ← c, upA_at]
  · rw [if_neg c, upA_ne (fun z => c z.symm)]
theorem lastD_ge {T : List Row} : ∀ n i, i < n → (tr T i).2.2.1 ≤ lastD T n
  | 0, i, h => absurd h (Nat.not_lt_zero _)
  | n + 1, i, h => by
    rw [lastD]
    by_cases e : i = n
    · rw [e]
      split
      · exact Int32.le_refl _
      · rename_i z; exact Int32.not_lt.1 z
    · have ih := lastD_ge (T := T) n i (by omega)
      split
      · rename_i z; exact Int32.le_trans ih (Int32.le_of_lt z)
      · exact ih
theorem CR.short {pf : Nat → Nat} {s : CSt} {a : Nat → PSt} {p : Nat} (h : CR pf s a) : CR pf s (upA a p ((a p).1, (a p).2.1, (a p).2.2.1, true, (a p).2.2.2.2)) := by
  obtain ⟨h1, h2, h3, h4, h5, h6⟩ := h
  have e1 : ∀ q, (upA a p ((a p).1, (a p).2.1, (a p).2.2.1, true, (a p).2.2.2.2) q).1 = (a q).1 := fun q => by
    by_cases z : q = p
    · rw [z, upA_at]
    · rw [upA_ne z]
  have e2 : ∀ q, (upA a p ((a p).1, (a p).2.1, (a p).2.2.1, true, (a p).2.2.2.2) q).2.1 = (a q).2.1 := fun q => by
    by_cases z : q = p
    · rw [z, upA_at]
    · rw [upA_ne z]
  have e3 : ∀ q, (upA a p ((a p).1, (a p).2.1, (a p).2.2.1, true, (a p).2.2.2.2) q).2.2.1 = (a q).2.2.1 := fun q => by
    by_cases z : q = p
    · rw [z, upA_at]
    · rw [upA_ne z]
  exact ⟨fun q hq => by rw [e1]; exact h1 q hq, fun q hq => by rw [e2]; exact h2 q hq, h3, h4, by rw [e3, e3, e3]; exact h5, h6.keep rfl⟩
section
variable {d : Nat} {A : qA} {S S' : qS} {x : Nat} {V : VSt} {tA tB nA nB bA bB : Nat} {π : Nat → Nat}
set_option maxRecDepth 20000 in
theorem ct_nextDraw {s : Nat} {f : Int32 → qS → Prop} (hs : s < 65537) (hf : f (nI (nxD s)) S) : Run (d + 1) 115 [.int (nI s)] A S (kI A f) := by
  refine Run.i (C := mX9_nextDraw) rfl rfl rfl fun J hJ => ?_
  refine sX9_nextDraw_0 hJ ⟨by decide, kI_i ?_⟩
  have e1 : (75 : Int32) * nI s + 74 = nI (75 * s + 74) := by rw [show (75 : Int32) = nI 75 from rfl, show (74 : Int32) = nI 74 from rfl, nI_mul, nI_add]
  rw [e1, show (65537 : Int32) = nI 65537 from rfl, pk_rem (by omega) (by omega) (by omega)]
  exact hf
set_option maxRecDepth 20000 in
theorem ct_sellStep {B t p : Nat} {w day sh pr rule : Int32} {pf : Nat → Nat} {s : CSt} {o pl : Nat → Int32} {a : Nat → PSt} {f : Bool → qS → Prop} (hB : BkS A S B w s o pl) (hC : CR pf s a) (ht : t < 36) (hp : p < 3) (hpt : pf t = p) (hr : cRoom s p) (hf : ∀ b S' s', BkS A S' B w s' o pl → CR pf s' (upA a p (aSell w t day sh pr rule (a p))) → Fr S S' B (B + 144) → f b S') : Run (d + 4) 5 [.ref B, .int (nI t), .int (nI p), .int day, .int sh, .int pr, .int rule] A S (kZ A f) := by
  refine ct_bookSell hB ht hp hr.1 hr.2 (fun y => ?_) (fun y S2 hB2 f2 => ?_)
  · refine hf false S s hB ?_ Fr.rf
    rw [aSell, if_neg (by rw [← hC.1 _ hp]; exact y)]
    exact hC.short
  · exact hf true S2 (cSell w p t day sh pr rule s) hB2 (hC.sell hp hpt y) f2
set_option maxRecDepth 20000 in
set_option maxHeartbeats 1000000 in
theorem ct_bookDrawn {sd n : Nat} {TD : List Row} {f : qS → Prop} (h : XP A S x V tA tB nA nB bA bB π) (hv : vOk V) (hsd : sd < 65537) (hn : n ≤ 12) (hTD : vNow V ++ dwL (lastD (vNow V) (vNow V).length) n sd = TD) (hf : ∀ S' s o pl, XP A S' x V tA tB nA nB bA bB π → BkS A S' bB (lw (vLed V)) s o pl → CR (fun t => paF (tr TD t)) s (aRes (lw (vLed V)) 999 TD) → Fr S S' x (x + 467) → f S') : Run (d + 9) 114 [.ref x, .int (nI sd), .int (nI n)] A S (kV A f) := by
  refine Run.i (C := mX9_bookDrawn) rfl rfl rfl fun J hJ => ?_
  have hk := h.1.1
  obtain ⟨d1, d2, d3, d4, d5⟩ := h.2.2.1
  obtain ⟨dd, hd1, hd2⟩ := lastD_b hv.2.1.1 _ (Nat.le_refl _)
  have hl := hv.2.1.1.2.2
  rw [hd2] at hTD
  obtain ⟨H, G, O, z, E, hB⟩ := h.tb
  obtain ⟨c1, c2, c3⟩ := book_rel (w := lw (vLed V)) (last := 999) (pf := fun t => paF (tr TD t)) hv.2.1.1 (fun t ht => by rw [← hTD, tr_app ht])
  obtain ⟨c4, nn, c5, c6⟩ := c3 hv.2.1.2
  refine sX9_bookDrawn_0 hJ ⟨hk, bB, h.r9, hk, nA, h.r6, hk, tA, h.r4, h.td.1.1, h.tb.k, wc rfl, ?_⟩
  rw [h.tw]
  refine ct_bookAll hB h.now (by omega) hv.2.1.1.1 c1 fun S1 o pl b1 b2 b3 f1 => ?_
  have h1 := h.trB f1 ⟨_, _, _, _, _, b1⟩
  refine ⟨hk, nA, h1.r6, h1.now.1.1, wc rfl, ct_latestDay h1.now ?_⟩
  rw [hd2]
  have m3 : ∀ a, a < 65537 → nI a - nI a / 3 * 3 = nI (a % 3) := fun a ha => pk_rem (d := 3) (by omega) (by omega) (by omega)
  have m20 : ∀ a, a < 65537 → nI a - nI a / 20 * 20 = nI (a % 20) := fun a ha => pk_rem (d := 20) (by omega) (by omega) (by omega)
  have m100 : ∀ a, a < 65537 → nI a - nI a / 100 * 100 = nI (a % 100) := fun a ha => pk_rem (d := 100) (by omega) (by omega) (by omega)
  have d999 : nI dd ≤ 999 := (nIle (b := 999) (by omega) (by omega)).2 hd1
  have loop : ∀ r k s (P : List Row) (Sj : qS) (s1 : CSt) (w1 w6 w7 w8 w9 : Option Value), k + r = n → P.length = k → s < 65537 → XP A Sj x V tA tB nA nB bA bB π → Fr S Sj x (x + 467) → BkS A Sj bB (lw (vLed V)) s1 o pl → CR (fun t => paF (tr TD t)) s1 (aRes (lw (vLed V)) 999 (vNow V ++ P)) → (∃ nn : Nat → Nat, (∀ p, p < 3 → PInv (999 * 9 ^ 4) (nn p) (aRes (lw (vLed V)) 999 (vNow V ++ P) p)) ∧ nn 0 + nn 1 + nn 2 ≤ (vNow V).length + k) → (∀ i, i < (vNow V ++ P).length → dayF (vNow V ++ P) i ≤ nI dd) → P ++ dwL (nI dd) r s = dwL (nI dd) n sd → J 36 [some (.ref x), w1, some (.int (nI n)), some (.int (nI dd)), some (.int (nI s)), some (.int (nI k)), w6, w7, w8, w9] [] A Sj := by
    intro r
    induction r with
    | zero =>
      intro k s P Sj s1 w1 w6 w7 w8 w9 hkn hP hs hj fj hBj hC hN hD he
      refine sX9_bookDrawn_36 hJ ⟨fun _ => kV_i ?_, fun z => absurd ((nIle (by omega) (by omega)).2 (by omega)) z⟩
      rw [dwL, List.append_nil] at he
      rw [he, hTD] at hC
      exact hf Sj s1 o pl hj hBj hC fj
    | succ r ih =>
      intro k s P Sj s1 w1 w6 w7 w8 w9 hkn hP hs hj fj hBj hC hN hD he
      have l1 := nxD_lt s
      have l2 := nxD_lt (nxD s)
      have l3 := nxD_lt (nxD (nxD s))
      have l4 := nxD_lt (nxD (nxD (nxD s)))
      obtain ⟨hrw, hns⟩ := dwR_v (s := s) hd1
      have hlen : (vNow V ++ P).length = (vNow V).length + k := by rw [List.length_append, hP]
      have h3 : nxD s % 3 < 3 := Nat.mod_lt _ (by omega)
      have hpa : paF (dwR s (nI dd)) = nxD s % 3 := cl_n (i := nxD s % 3) (by omega)
      have hup := aRes_up (w := lw (vLed V)) (last := 999) (T := vNow V ++ P) (r := dwR s (nI dd)) hD d999
      have htr : tr TD ((vNow V).length + k) = dwR s (nI dd) := by
        rw [← hTD, ← he, dwL, ← hlen, ← List.append_assoc (vNow V), show (vNow V ++ P) ++ dwR s (nI dd) :: dwL (nI dd) r (nxD (nxD (nxD (nxD s)))) = ((vNow V ++ P) ++ [dwR s (nI dd)]) ++ dwL (nI dd) r (nxD (nxD (nxD (nxD s)))) by simp, tr_app (T := vNow V ++ P ++ [dwR s (nI dd)]) (by rw [List.length_append (as := vNow V ++ P), List.length_singleton]; omega), tr_end]
      obtain ⟨nn, n1, n2⟩ := hN
      have hroom := hC.room n1 (by omega) h3
      have fin : ∀ S' s2 w6 w7 w8 w9, BkS A S' bB (lw (vLed V)) s2 o pl → Fr Sj S' bB (bB + 144) → CR (fun t => paF (tr TD t)) s2 (upA (aRes (lw (vLed V)) 999 (vNow V ++ P)) (paF (dwR s (nI dd))) (aStep (lw (vLed V)) (vNow V ++ P ++ [dwR s (nI dd)]) (vNow V ++ P).length (aRes (lw (vLed V)) 999 (vNow V ++ P) (paF (dwR s (nI dd)))))) → J 36 [some (.ref x), w1, some (.int (nI n)), some (.int (nI dd)), some (.int (nI (nxD (nxD (nxD (nxD s)))))), some (.int (nI (k + 1))), w6, w7, w8, w9] [] A S' := by
        intro S' s2 w6 w7 w8 w9 hB2 f2 hC2
        rw [← hup, List.append_assoc] at hC2
        refine ih (k + 1) _ (P ++ [dwR s (nI dd)]) S' s2 w1 w6 w7 w8 w9 (by omega) (by rw [List.length_append, List.length_singleton, hP]) l4 (hj.trB f2 ⟨_, _, _, _, _, hB2⟩) (fj.trans (hj.frB f2)) hB2 hC2 ⟨upN nn (nxD s % 3) (nn (nxD s % 3) + 1), fun p hp => ?_, ?_⟩ (fun i hi => ?_) ?_
        · rw [← List.append_assoc, hup, hpa]
          by_cases z : p = nxD s % 3
          · rw [z, upA_at, upN, if_pos rfl]
            have := aStep_inv (k := 4) (w := lw (vLed V)) (T := vNow V ++ P ++ [dwR s (nI dd)]) (t := (vNow V ++ P).length) (n := nn (nxD s % 3)) (s := aRes (lw (vLed V)) 999 (vNow V ++ P) (nxD s % 3)) (by rw [tr_end]; exact hrw) (by unfold isSpl; rw [tr_end, if_neg hns]; omega) (by rcases (show nxD s % 3 = 0 ∨ nxD s % 3 = 1 ∨ nxD s % 3 = 2 by omega) with e | e | e <;> rw [e] <;> omega) (n1 _ h3)
            rwa [show isSpl (vNow V ++ P ++ [dwR s (nI dd)]) (vNow V ++ P).length = 0 by unfold isSpl; rw [tr_end, if_neg hns], Nat.add_zero] at this
          · rw [upA_ne z, upN, if_neg z]
            exact n1 p hp
        · rcases (show nxD s % 3 = 0 ∨ nxD s % 3 = 1 ∨ nxD s % 3 = 2 by omega) with e | e | e <;> rw [e] <;> simp [upN] <;> omega
        · rw [← List.append_assoc] at hi ⊢
          rw [List.length_append, List.length_singleton] at hi
          by_cases e : i = (vNow V ++ P).length
          · rw [e]; unfold dayF; rw [tr_end]; exact Int32.le_refl _
          · have hi' : i < (vNow V ++ P).length := by omega
            unfold dayF; rw [tr_app hi']; exact hD i hi'
        · rw [dwL] at he
          rw [← he, List.append_assoc]; rfl
      rw [hpa] at fin
      have kA := hj.now.1.1
      have cA : gI Sj nA 7 + nI k = nI ((vNow V).length + k) := by rw [hj.now.2.2.1.1, nI_add]
      have z0 : (nI (nxD (nxD s) % 3) = 0) = (nxD (nxD s) % 3 = 0) := by rw [show (0 : Int32) = nI 0 from rfl, nIeq (by omega) (by omega)]
      refine sX9_bookDrawn_36 hJ ⟨fun z => absurd ((nIle (by omega) (by omega)).1 z) (by omega), fun _ => ⟨fun z => absurd ((nIle (a := 12) (by omega) (by omega)).1 z) (by omega), fun _ => ⟨wc rfl, ct_nextDraw hs ⟨by decide, wc rfl, ct_nextDraw l1 ⟨by decide, ?_⟩⟩⟩⟩⟩
      rw [m3 _ l1, m3 _ l2, z0]
      refine ⟨fun z => ⟨wc rfl, ct_nextDraw l2 ⟨by decide, wc rfl, ct_nextDraw l3 ⟨by decide, fun _ => ⟨hk, bB, hj.r9, hk, nA, hj.r6, kA, hj.tb.k, wc rfl, ?_⟩, fun y => absurd rfl y⟩⟩⟩, fun z => ⟨wc rfl, ct_nextDraw l2 ⟨by decide, wc rfl, ct_nextDraw l3 ⟨by decide, fun y => absurd (show (1 : Int32) = 0 from y) (by decide), fun _ => ⟨hk, bB, hj.r9, hk, nA, hj.r6, kA, hj.tb.k, wc rfl, ?_⟩⟩⟩⟩⟩
      · rw [m20 _ l3, m100 _ l4, cA, nI_1, nI_1]
        have r0 : (dwR s (nI dd)).1 = 0 := if_neg z
        refine ct_bookBuy hBj h3 hroom.1 fun S2 hB2 f2 => fin S2 (cBuy (lw (vLed V)) (nxD s % 3) (nI ((vNow V).length + k)) (nI dd) (nI (nxD (nxD (nxD s)) % 20 + 1)) (nI (nxD (nxD (nxD (nxD s))) % 100)) s1) _ _ _ _ hB2 f2 ?_
        rw [aStep, tr_end, if_pos r0, hlen]
        exact hC.buy h3
      · rw [m20 _ l3, m100 _ l4, cA, nI_1, nI_1]
        have r1 : (dwR s (nI dd)).1 = 1 := if_pos z
        have e1 : ∀ a, aStep (lw (vLed V)) (vNow V ++ P ++ [dwR s (nI dd)]) (vNow V ++ P).length a = aSell (lw (vLed V)) ((vNow V).length + k) (nI dd) (nI (nxD (nxD (nxD s)) % 20 + 1)) (nI (nxD (nxD (nxD (nxD s))) % 100)) 0 a := fun a => by
          rw [aStep, tr_end, if_neg (by rw [r1]; decide), if_neg hns, hlen]; rfl
        rw [e1] at fin
        exact ct_sellStep hBj hC (by omega) h3 (by show paF (tr TD _) = _; rw [htr, hpa]) hroom (fun b S2 s2 hB2 hC2 f2 => fin S2 s2 _ _ _ _ hB2 f2 hC2)
  exact loop n 0 sd [] S1 _ _ _ _ _ _ (by omega) rfl hsd h1 (h.frB f1) b1 (by rw [List.append_nil]; exact c4) ⟨nn, by rw [List.append_nil]; exact c5, c6⟩ (by rw [List.append_nil]; intro i hi; rw [← hd2]; exact lastD_ge _ i hi) rfl
end

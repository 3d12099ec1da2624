/-! the class's reader: a step -/
section
variable {d : Nat} {A : qA} {S : qS} {r t a n : Nat} {tp : Nat → Int32}
set_option maxRecDepth 20000 in
set_option maxHeartbeats 2000000 in
theorem ct_step {x : Tks} {f : qS → Prop} (h : Rx A S r t a tp n) (h5 : gI S r 5 = nI x.1) (hx1 : x.1 ≤ n) (hf : ∀ S', CT S' r (tokN tp n x) → Ro S S' r → f S') : Run (d + 3) 48 [.ref r] A S (kV A f) := by
  refine Run.i (C := mX6_step) rfl rfl rfl fun J hJ => ?_
  have hk0 := h.1
  have hn := h.2.2.2.2.1
  unfold tokN at hf
  generalize est : skp tp n (n - x.1) x.1 = st at hf
  generalize x.2.2.2.1 = nu at hf
  generalize x.2.2.2.2 = wd at hf
  -- behind the letters
  have word : ∀ (hl : ltB (byN tp n st) = true) (hst : st < n), ∀ g e Sj, e + g = n → st ≤ e → lte tp n g e = lte tp n (n - st) st → gI Sj r 5 = nI e → gI Sj r 4 = nI st → Ro S Sj r → J 88 [some (.ref r)] [] A Sj := by
    intro hl hst
    have n1 : ¬ byN tp n st = -1 := fun z => by rw [z] at hl; exact absurd hl (by decide)
    rw [tokAt, if_neg n1, if_pos hl] at hf
    generalize lte tp n (n - st) st = L at hf
    have exit : ∀ e Sj, st ≤ e → e ≤ n → e = L → gI Sj r 5 = nI e → gI Sj r 4 = nI st → Ro S Sj r → (A.1 r = some (6, 0) ∧ A.1 r = some (6, 0) ∧ ((8 < ((gI Sj r 5) - (gI Sj r 4)) → A.1 r = some (6, 0) ∧ ∀ S_1, S_1 = uI Sj r 6 4 → kV A f none A S_1) ∧ (¬ 8 < ((gI Sj r 5) - (gI Sj r 4)) → A.1 r = some (6, 0) ∧ ∀ S_2, S_2 = uI Sj r 6 1 → kV A f none A S_2))) := by
      intro e Sj h1 h2 h3 g5 g4 l
      rw [g5, g4, nI_sub h1, show (8 : Int32) = nI 8 from rfl, nIlt (by omega) (by omega)]
      subst h3
      refine ⟨hk0, hk0, fun z => ⟨hk0, fun S1 e1 => kV_i (hf S1 ?_ (by rw [e1]; exact l.uI (by omega)))⟩, fun z => ⟨hk0, fun S1 e1 => kV_i (hf S1 ?_ (by rw [e1]; exact l.uI (by omega)))⟩⟩
      · rw [e1, if_pos z]
        exact ⟨by rw [gI_uI, if_neg (by omega)]; exact g4, by rw [gI_uI, if_pos ⟨rfl, rfl⟩]; exact kmpv.1.symm, fun c => absurd rfl c, fun c => absurd (show (0 : Int32) = 3 from c) (by decide)⟩
      · rw [e1, if_neg z]
        exact ⟨by rw [gI_uI, if_neg (by omega)]; exact g4, by rw [gI_uI, if_pos ⟨rfl, rfl⟩]; exact kmpv.2.2.1.symm, fun _ => by rw [gI_uI, if_neg (by omega)]; exact g5, fun c => absurd (show (2 : Int32) = 3 from c) (by decide)⟩
    intro g
    induction g with
    | zero =>
      intro e Sj he hke hD g5 g4 l
      have hx := h.ro l
      refine sX6_step_88 hJ ⟨hk0, hk0, fun _ => exit e Sj hke (by omega) hD g5 g4 l, fun z => absurd ?_ z⟩
      rw [hx.2.2.2.1, g5, nIle (by omega) (by omega)]
      omega
    | succ g ih =>
      intro e Sj he hke hD g5 g4 l
      have hx := h.ro l
      have hb : byN tp n e = tp e &&& 255 := if_pos (by omega)
      have hy := by_all (hx.2.2.2.2.2.2.2.2 e)
      have ht : gI Sj t (nI e).toNatClampNeg = tp e := by rw [cl_n (by omega)]; exact hx.2.2.2.2.2.1 e (by omega)
      refine sX6_step_88 hJ ⟨hk0, hk0, fun z => ?_, fun z => ⟨hk0, t, hx.2.1, hk0, 900, hx.2.2.1, by rw [g5]; exact vp_n (by omega) (by omega), wc rfl, ?_⟩⟩
      · rw [hx.2.2.2.1, g5, nIle (by omega) (by omega)] at z
        omega
      · rw [g5, ht]
        rw [lte, hb, hy.2.1] at hD
        refine ct_rLetter (q_eqb (fun c => ?_) (fun c => ⟨hk0, hk0, fun S1 e1 => ?_⟩))
        · rw [c, if_neg (by decide)] at hD
          exact exit e Sj hke (by omega) hD g5 g4 l
        · rw [if_pos c] at hD
          rw [g5, nI_1] at e1
          exact ih (e + 1) S1 (by omega) (by omega) hD (by rw [e1, gI_uI, if_pos ⟨rfl, rfl⟩]) (by rw [e1, gI_uI, if_neg (by omega)]; exact g4) (by rw [e1]; exact l.uI (by omega))
  have loop : ∀ g k Sj, k + g = n → skp tp n g k = st → gI Sj r 4 = nI k → Ro S Sj r → J 8 [some (.ref r)] [] A Sj := by
    intro g
    induction g with
    | zero =>
      intro k Sj hk hs g4 l
      have hx := h.ro l
      have hs : k = st := hs
      have ek : k = n := by omega
      refine sX6_step_8 hJ ⟨hk0, hk0, fun _ => ⟨hk0, hk0, fun S1 e1 => ⟨hk0, hk0, fun z => ?_, fun z => ⟨hk0, fun S2 e2 => kV_i (hf S2 ?_ (by rw [e2, e1]; exact (l.uI (by omega)).uI (by omega)))⟩⟩⟩, fun z => absurd ?_ z⟩
      · rw [e1, gI_uI, if_neg (by omega), gI_uI, if_neg (by omega), hx.2.2.2.1, g4, nIlt (by omega) (by omega)] at z
        omega
      · rw [e2, e1, tokAt, ← hs, ek, byN_end, if_pos rfl]
        rw [g4, ek]
        refine ⟨?_, ?_, fun _ => ?_, fun c => absurd (show (1 : Int32) = 3 from c) (by decide)⟩
        · rw [gI_uI, if_neg (by omega), gI_uI, if_neg (by omega), g4, ek]
        · rw [gI_uI, if_pos ⟨rfl, rfl⟩]; exact kmpv.2.1.symm
        · rw [gI_uI, if_neg (by omega), gI_uI, if_pos ⟨rfl, rfl⟩]
      · rw [hx.2.2.2.1, g4, nIle (by omega) (by omega)]
        omega
    | succ g ih =>
      intro k Sj hk hs g4 l
      have hx := h.ro l
      have hb : byN tp n k = tp k &&& 255 := if_pos (by omega)
      have hy := by_all (hx.2.2.2.2.2.2.2.2 k)
      have n1 : ¬ byN tp n k = -1 := by rw [hb]; exact hy.2.2.2.2.1
      have ht : gI Sj t (nI k).toNatClampNeg = tp k := by rw [cl_n (by omega)]; exact hx.2.2.2.2.2.1 k (by omega)
      rw [skp, hb] at hs
      refine sX6_step_8 hJ ⟨hk0, hk0, fun z => ?_, fun z => ⟨hk0, t, hx.2.1, hk0, 900, hx.2.2.1, by rw [g4]; exact vp_n (by omega) (by omega), fun zs => ⟨hk0, hk0, fun S1 e1 => ⟨hk0, hk0, fun z1 => ⟨hk0, t, by rw [e1]; exact hx.2.1, hk0, 900, hx.2.2.1, ?_, wc rfl, ?_⟩, fun z1 => absurd ?_ z1⟩⟩, fun zs => ?_⟩⟩
      · rw [hx.2.2.2.1, g4, nIle (by omega) (by omega)] at z
        omega
      · rw [e1, gI_uI, if_neg (by omega), g4]; exact vp_n (by omega) (by omega)
      · rw [g4, ht] at zs
        rw [if_neg (fun c => zs (hy.1.1 c))] at hs
        subst hs
        have g41 : gI S1 r 4 = nI k := by rw [e1, gI_uI, if_neg (by omega)]; exact g4
        have g51 : gI S1 r 5 = nI k := by rw [e1, gI_uI, if_pos ⟨rfl, rfl⟩, g4]
        have l1 : Ro S S1 r := by rw [e1]; exact l.uI (by omega)
        have hx1 := h.ro l1
        have ht1 : gI S1 t (nI k).toNatClampNeg = tp k := by rw [cl_n (by omega)]; exact hx1.2.2.2.2.2.1 k (by omega)
        rw [g41, ht1]
        refine ct_rLetter (q_eqb (fun c => ⟨hk0, t, hx1.2.1, hk0, 900, hx1.2.2.1, ?_, wc rfl, ?_⟩) (fun c => ?_))
        · rw [g41]; exact vp_n (by omega) (by omega)
        · rw [g41, ht1]
          have nl : ¬ ltB (byN tp n k) = true := by rw [hb, hy.2.1, c]; decide
          refine ct_rDigit (q_eqb (fun c1 => ⟨hk0, hk0, fun S2 e2 => ⟨hk0, t, by rw [e2]; exact hx1.2.1, hk0, 900, hx1.2.2.1, ?_, ?_⟩⟩) (fun c1 => ⟨hk0, wc rfl, ct_stepOverDigits hx1 g41 g51 (by omega) fun S2 h2 l2 => kV_i (hf S2 ?_ (l1.trans l2))⟩))
          · rw [e2, gI_uI, if_neg (by omega), g41]; exact vp_n (by omega) (by omega)
          · have nd : ¬ dgB (byN tp n k) = true := by rw [hb, hy.2.2.1, c1]; decide
            have l2 : Ro S S2 r := by rw [e2]; exact l1.uI (by omega)
            have g42 : gI S2 r 4 = nI k := by rw [e2, gI_uI, if_neg (by omega)]; exact g41
            have g52 : gI S2 r 5 = nI (k + 1) := by rw [e2, gI_uI, if_pos ⟨rfl, rfl⟩, g41, nI_1]
            have ht2 : gI S2 t (nI k).toNatClampNeg = tp k := by rw [cl_n (by omega)]; exact (h.ro l2).2.2.2.2.2.1 k (by omega)
            rw [g42, ht2]
            rw [tokAt, if_neg n1, if_neg nl, if_neg nd] at hf
            refine ⟨fun z59 => ⟨hk0, fun S3 e3 => kV_i (hf S3 ?_ (by rw [e3]; exact l2.uI (by omega)))⟩, fun z59 => ⟨hk0, fun S3 e3 => kV_i (hf S3 ?_ (by rw [e3]; exact l2.uI (by omega)))⟩⟩
            · rw [hb, if_neg (fun c => z59 (hy.2.2.2.1.1 c)), e3]
              exact ⟨by rw [gI_uI, if_neg (by omega)]; exact g42, by rw [gI_uI, if_pos ⟨rfl, rfl⟩]; exact kmpv.1.symm, fun c => absurd rfl c, fun c => absurd (show (0 : Int32) = 3 from c) (by decide)⟩
            · rw [hb, if_pos (hy.2.2.2.1.2 z59), e3]
              exact ⟨by rw [gI_uI, if_neg (by omega)]; exact g42, by rw [gI_uI, if_pos ⟨rfl, rfl⟩]; exact kmpv.2.2.2.2.symm, fun _ => by rw [gI_uI, if_neg (by omega)]; exact g52, fun c => absurd (show (4 : Int32) = 3 from c) (by decide)⟩
          · have nd : dgB (byN tp n k) = true := by rw [hb, hy.2.2.1]; exact c1
            rw [tokAt, if_neg n1, if_neg nl, if_pos nd]
            exact h2
        · exact word (by rw [hb, hy.2.1]; exact c) (by omega) (n - k) k S1 (by omega) (Nat.le_refl _) rfl g51 g41 l1
      · rw [e1, gI_uI, if_neg (by omega), gI_uI, if_neg (by omega), hx.2.2.2.1, g4, nIlt (by omega) (by omega)]
        omega
      · rw [g4, ht] at zs
        rw [if_pos (hy.1.2 zs)] at hs
        refine ⟨hk0, hk0, fun S1 e1 => ?_⟩
        rw [g4, nI_1] at e1
        exact ih (k + 1) S1 (by omega) hs (by rw [e1, gI_uI, if_pos ⟨rfl, rfl⟩]) (by rw [e1]; exact l.uI (by omega))
  refine sX6_step_0 hJ ⟨hk0, hk0, fun S1 e1 => loop (n - x.1) x.1 S1 (by omega) est (by rw [e1, gI_uI, if_pos ⟨rfl, rfl⟩]; exact h5) (by rw [e1]; exact Ro.rf.uI (by omega))⟩
end

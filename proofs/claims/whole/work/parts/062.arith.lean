/-! arithmetic, stack, branches -/
section
variable {own : String} {cc : ByteArray} {nL : Nat} {hi : Prop} {rok : Launch → Room → Nat → Heap → va_G → (Nat → ClassId) → (Nat → Nat) → (Nat → Nat) → qR → Prop} {pc : Nat}

theorem ok_iadd (hd : decode cc pc = .ok (.iadd, 1)) : Okn own cc nL hi rok pc (x_i2 (fun x y => x + y)) := by
  intro p l e R s m args below meth c Q b0 H0 D cy ad adV c0 s0 cap K rn J' X _ _ hJ ls st A S h g1 g2 g3 g4 H locs arr hH hS hl
  unfold x_i2 at h; split at h
  · exact lv_iadd X.1 X.2.1 hd (hJ _ _ _ _ _ h g1 g2 g3 g4 H locs arr hH hS hl)
  · exact h.elim
theorem ok_isub (hd : decode cc pc = .ok (.isub, 1)) : Okn own cc nL hi rok pc (x_i2 (fun x y => x - y)) := by
  intro p l e R s m args below meth c Q b0 H0 D cy ad adV c0 s0 cap K rn J' X _ _ hJ ls st A S h g1 g2 g3 g4 H locs arr hH hS hl
  unfold x_i2 at h; split at h
  · exact lv_isub X.1 X.2.1 hd (hJ _ _ _ _ _ h g1 g2 g3 g4 H locs arr hH hS hl)
  · exact h.elim
theorem ok_imul (hd : decode cc pc = .ok (.imul, 1)) : Okn own cc nL hi rok pc (x_i2 (fun x y => x * y)) := by
  intro p l e R s m args below meth c Q b0 H0 D cy ad adV c0 s0 cap K rn J' X _ _ hJ ls st A S h g1 g2 g3 g4 H locs arr hH hS hl
  unfold x_i2 at h; split at h
  · exact lv_imul X.1 X.2.1 hd (hJ _ _ _ _ _ h g1 g2 g3 g4 H locs arr hH hS hl)
  · exact h.elim
theorem ok_iand (hd : decode cc pc = .ok (.iand, 1)) : Okn own cc nL hi rok pc (x_i2 (fun x y => x &&& y)) := by
  intro p l e R s m args below meth c Q b0 H0 D cy ad adV c0 s0 cap K rn J' X _ _ hJ ls st A S h g1 g2 g3 g4 H locs arr hH hS hl
  unfold x_i2 at h; split at h
  · exact lv_iand X.1 X.2.1 hd (hJ _ _ _ _ _ h g1 g2 g3 g4 H locs arr hH hS hl)
  · exact h.elim
theorem ok_ior (hd : decode cc pc = .ok (.ior, 1)) : Okn own cc nL hi rok pc (x_i2 (fun x y => x ||| y)) := by
  intro p l e R s m args below meth c Q b0 H0 D cy ad adV c0 s0 cap K rn J' X _ _ hJ ls st A S h g1 g2 g3 g4 H locs arr hH hS hl
  unfold x_i2 at h; split at h
  · exact lv_ior X.1 X.2.1 hd (hJ _ _ _ _ _ h g1 g2 g3 g4 H locs arr hH hS hl)
  · exact h.elim
theorem ok_ishl (hd : decode cc pc = .ok (.ishl, 1)) : Okn own cc nL hi rok pc (x_i2 (fun x y => x <<< (y &&& 31))) := by
  intro p l e R s m args below meth c Q b0 H0 D cy ad adV c0 s0 cap K rn J' X _ _ hJ ls st A S h g1 g2 g3 g4 H locs arr hH hS hl
  unfold x_i2 at h; split at h
  · exact lv_ishl X.1 X.2.1 hd (hJ _ _ _ _ _ h g1 g2 g3 g4 H locs arr hH hS hl)
  · exact h.elim
theorem ok_ishr (hd : decode cc pc = .ok (.ishr, 1)) : Okn own cc nL hi rok pc (x_i2 (fun x y => x >>> (y &&& 31))) := by
  intro p l e R s m args below meth c Q b0 H0 D cy ad adV c0 s0 cap K rn J' X _ _ hJ ls st A S h g1 g2 g3 g4 H locs arr hH hS hl
  unfold x_i2 at h; split at h
  · exact lv_ishr X.1 X.2.1 hd (hJ _ _ _ _ _ h g1 g2 g3 g4 H locs arr hH hS hl)
  · exact h.elim
theorem ok_iushr (hd : decode cc pc = .ok (.iushr, 1)) : Okn own cc nL hi rok pc (x_i2 (fun x y => (x.toUInt32 >>> (y.toUInt32 &&& Int32.toUInt32 31)).toInt32)) := by
  intro p l e R s m args below meth c Q b0 H0 D cy ad adV c0 s0 cap K rn J' X _ _ hJ ls st A S h g1 g2 g3 g4 H locs arr hH hS hl
  unfold x_i2 at h; split at h
  · exact lv_iushr X.1 X.2.1 hd rfl (hJ _ _ _ _ _ h g1 g2 g3 g4 H locs arr hH hS hl)
  · exact h.elim
theorem ok_ineg (hd : decode cc pc = .ok (.ineg, 1)) : Okn own cc nL hi rok pc (x_i1 (fun x => -x)) := by
  intro p l e R s m args below meth c Q b0 H0 D cy ad adV c0 s0 cap K rn J' X _ _ hJ ls st A S h g1 g2 g3 g4 H locs arr hH hS hl
  unfold x_i1 at h; split at h
  · exact lv_ineg X.1 X.2.1 hd (hJ _ _ _ _ _ h g1 g2 g3 g4 H locs arr hH hS hl)
  · exact h.elim
theorem ok_i2b (hd : decode cc pc = .ok (.i2b, 1)) : Okn own cc nL hi rok pc (x_i1 (fun x => x.toInt8.toInt32)) := by
  intro p l e R s m args below meth c Q b0 H0 D cy ad adV c0 s0 cap K rn J' X _ _ hJ ls st A S h g1 g2 g3 g4 H locs arr hH hS hl
  unfold x_i1 at h; split at h
  · exact lv_i2b X.1 X.2.1 hd rfl (hJ _ _ _ _ _ h g1 g2 g3 g4 H locs arr hH hS hl)
  · exact h.elim
theorem ok_ladd (hd : decode cc pc = .ok (.ladd, 1)) : Okn own cc nL hi rok pc (x_l2 (fun x y => x + y)) := by
  intro p l e R s m args below meth c Q b0 H0 D cy ad adV c0 s0 cap K rn J' X _ _ hJ ls st A S h g1 g2 g3 g4 H locs arr hH hS hl
  unfold x_l2 at h; split at h
  · exact lv_ladd X.1 X.2.1 hd (hJ _ _ _ _ _ h g1 g2 g3 g4 H locs arr hH hS hl)
  · exact h.elim
theorem ok_lsub (hd : decode cc pc = .ok (.lsub, 1)) : Okn own cc nL hi rok pc (x_l2 (fun x y => x - y)) := by
  intro p l e R s m args below meth c Q b0 H0 D cy ad adV c0 s0 cap K rn J' X _ _ hJ ls st A S h g1 g2 g3 g4 H locs arr hH hS hl
  unfold x_l2 at h; split at h
  · exact lv_lsub X.1 X.2.1 hd (hJ _ _ _ _ _ h g1 g2 g3 g4 H locs arr hH hS hl)
  · exact h.elim
theorem ok_lmul (hd : decode cc pc = .ok (.lmul, 1)) : Okn own cc nL hi rok pc (x_l2 (fun x y => x * y)) := by
  intro p l e R s m args below meth c Q b0 H0 D cy ad adV c0 s0 cap K rn J' X _ _ hJ ls st A S h g1 g2 g3 g4 H locs arr hH hS hl
  unfold x_l2 at h; split at h
  · exact lv_lmul X.1 X.2.1 hd (hJ _ _ _ _ _ h g1 g2 g3 g4 H locs arr hH hS hl)
  · exact h.elim
theorem ok_idiv (hd : decode cc pc = .ok (.idiv, 1)) : Okn own cc nL hi rok pc (x_idiv) := by
  intro p l e R s m args below meth c Q b0 H0 D cy ad adV c0 s0 cap K rn J' X _ _ hJ ls st A S h g1 g2 g3 g4 H locs arr hH hS hl
  unfold x_idiv at h; split at h
  · exact lv_idiv X.1 X.2.1 hd h.1 (hJ _ _ _ _ _ h.2 g1 g2 g3 g4 H locs arr hH hS hl)
  · exact h.elim
theorem ok_irem (hd : decode cc pc = .ok (.irem, 1)) : Okn own cc nL hi rok pc (x_irem) := by
  intro p l e R s m args below meth c Q b0 H0 D cy ad adV c0 s0 cap K rn J' X _ _ hJ ls st A S h g1 g2 g3 g4 H locs arr hH hS hl
  unfold x_irem at h; split at h
  · exact lv_irem X.1 X.2.1 hd h.1 (hJ _ _ _ _ _ h.2 g1 g2 g3 g4 H locs arr hH hS hl)
  · exact h.elim
theorem ok_ldiv (hd : decode cc pc = .ok (.ldiv, 1)) : Okn own cc nL hi rok pc (x_ldiv) := by
  intro p l e R s m args below meth c Q b0 H0 D cy ad adV c0 s0 cap K rn J' X _ _ hJ ls st A S h g1 g2 g3 g4 H locs arr hH hS hl
  unfold x_ldiv at h; split at h
  · exact lv_ldiv X.1 X.2.1 hd h.1 (hJ _ _ _ _ _ h.2 g1 g2 g3 g4 H locs arr hH hS hl)
  · exact h.elim
theorem ok_lrem (hd : decode cc pc = .ok (.lrem, 1)) : Okn own cc nL hi rok pc (x_lrem) := by
  intro p l e R s m args below meth c Q b0 H0 D cy ad adV c0 s0 cap K rn J' X _ _ hJ ls st A S h g1 g2 g3 g4 H locs arr hH hS hl
  unfold x_lrem at h; split at h
  · exact lv_lrem X.1 X.2.1 hd h.1 (hJ _ _ _ _ _ h.2 g1 g2 g3 g4 H locs arr hH hS hl)
  · exact h.elim
theorem ok_i2l (hd : decode cc pc = .ok (.i2l, 1)) : Okn own cc nL hi rok pc (x_i2l) := by
  intro p l e R s m args below meth c Q b0 H0 D cy ad adV c0 s0 cap K rn J' X _ _ hJ ls st A S h g1 g2 g3 g4 H locs arr hH hS hl
  unfold x_i2l at h; split at h
  · exact lv_i2l X.1 X.2.1 hd rfl (hJ _ _ _ _ _ h g1 g2 g3 g4 H locs arr hH hS hl)
  · exact h.elim
theorem ok_l2i (hd : decode cc pc = .ok (.l2i, 1)) : Okn own cc nL hi rok pc (x_l2i) := by
  intro p l e R s m args below meth c Q b0 H0 D cy ad adV c0 s0 cap K rn J' X _ _ hJ ls st A S h g1 g2 g3 g4 H locs arr hH hS hl
  unfold x_l2i at h; split at h
  · exact lv_l2i X.1 X.2.1 hd rfl (hJ _ _ _ _ _ h g1 g2 g3 g4 H locs arr hH hS hl)
  · exact h.elim
theorem ok_lcmp (hd : decode cc pc = .ok (.lcmp, 1)) : Okn own cc nL hi rok pc (x_lcmp) := by
  intro p l e R s m args below meth c Q b0 H0 D cy ad adV c0 s0 cap K rn J' X _ _ hJ ls st A S h g1 g2 g3 g4 H locs arr hH hS hl
  unfold x_lcmp at h; split at h
  · exact W.lcmp X.1 X.2.1 hd (hJ _ _ _ _ _ h g1 g2 g3 g4 H locs arr hH hS hl)
  · exact h.elim
theorem ok_dup (hd : decode cc pc = .ok (.dup, 1)) : Okn own cc nL hi rok pc (x_dup) := by
  intro p l e R s m args below meth c Q b0 H0 D cy ad adV c0 s0 cap K rn J' X _ _ hJ ls st A S h g1 g2 g3 g4 H locs arr hH hS hl
  unfold x_dup at h; split at h
  · exact lv_dup X.1 X.2.1 hd rfl (hJ _ _ _ _ _ h g1 g2 g3 g4 H locs arr hH hS hl)
  · exact lv_dup X.1 X.2.1 hd rfl (hJ _ _ _ _ _ h g1 g2 g3 g4 H locs arr hH hS hl)
  · exact h.elim
theorem ok_pop (hd : decode cc pc = .ok (.pop, 1)) : Okn own cc nL hi rok pc (x_pop) := by
  intro p l e R s m args below meth c Q b0 H0 D cy ad adV c0 s0 cap K rn J' X _ _ hJ ls st A S h g1 g2 g3 g4 H locs arr hH hS hl
  unfold x_pop at h; split at h
  · exact lv_pop X.1 X.2.1 hd rfl (hJ _ _ _ _ _ h g1 g2 g3 g4 H locs arr hH hS hl)
  · exact lv_pop X.1 X.2.1 hd rfl (hJ _ _ _ _ _ h g1 g2 g3 g4 H locs arr hH hS hl)
  · exact h.elim
theorem ok_dup2 (hd : decode cc pc = .ok (.dup2, 1)) : Okn own cc nL hi rok pc (x_dup2) := by
  intro p l e R s m args below meth c Q b0 H0 D cy ad adV c0 s0 cap K rn J' X _ _ hJ ls st A S h g1 g2 g3 g4 H locs arr hH hS hl
  unfold x_dup2 at h; split at h
  · exact lv_dup2_11 X.1 X.2.1 hd rfl rfl (hJ _ _ _ _ _ h g1 g2 g3 g4 H locs arr hH hS hl)
  · exact h.elim
theorem ok_if_eq {off : Int} {t : Nat} (hd : decode cc pc = .ok (.ifCond .eq off, 3)) (ht : (pc : Int) + off = (t : Int)) : Okn own cc nL hi rok pc (x_if (fun x => x = 0) (fun x => ¬ x = 0) t) := by
  intro p l e R s m args below meth c Q b0 H0 D cy ad adV c0 s0 cap K rn J' X _ _ hJ ls st A S h g1 g2 g3 g4 H locs arr hH hS hl
  unfold x_if at h; split at h
  · exact lv_if_eq X.1 X.2.1 hd ht (fun c => hJ _ _ _ _ _ (h.1 c) g1 g2 g3 g4 H locs arr hH hS hl) (fun c => hJ _ _ _ _ _ (h.2 c) g1 g2 g3 g4 H locs arr hH hS hl)
  · exact h.elim
theorem ok_if_ne {off : Int} {t : Nat} (hd : decode cc pc = .ok (.ifCond .ne off, 3)) (ht : (pc : Int) + off = (t : Int)) : Okn own cc nL hi rok pc (x_if (fun x => ¬ x = 0) (fun x => x = 0) t) := by
  intro p l e R s m args below meth c Q b0 H0 D cy ad adV c0 s0 cap K rn J' X _ _ hJ ls st A S h g1 g2 g3 g4 H locs arr hH hS hl
  unfold x_if at h; split at h
  · exact lv_if_ne X.1 X.2.1 hd ht (fun c => hJ _ _ _ _ _ (h.1 c) g1 g2 g3 g4 H locs arr hH hS hl) (fun c => hJ _ _ _ _ _ (h.2 c) g1 g2 g3 g4 H locs arr hH hS hl)
  · exact h.elim
theorem ok_if_lt {off : Int} {t : Nat} (hd : decode cc pc = .ok (.ifCond .lt off, 3)) (ht : (pc : Int) + off = (t : Int)) : Okn own cc nL hi rok pc (x_if (fun x => x < 0) (fun x => ¬ x < 0) t) := by
  intro p l e R s m args below meth c Q b0 H0 D cy ad adV c0 s0 cap K rn J' X _ _ hJ ls st A S h g1 g2 g3 g4 H locs arr hH hS hl
  unfold x_if at h; split at h
  · exact lv_if_lt X.1 X.2.1 hd ht (fun c => hJ _ _ _ _ _ (h.1 c) g1 g2 g3 g4 H locs arr hH hS hl) (fun c => hJ _ _ _ _ _ (h.2 c) g1 g2 g3 g4 H locs arr hH hS hl)
  · exact h.elim
theorem ok_if_ge {off : Int} {t : Nat} (hd : decode cc pc = .ok (.ifCond .ge off, 3)) (ht : (pc : Int) + off = (t : Int)) : Okn own cc nL hi rok pc (x_if (fun x => 0 ≤ x) (fun x => ¬ 0 ≤ x) t) := by
  intro p l e R s m args below meth c Q b0 H0 D cy ad adV c0 s0 cap K rn J' X _ _ hJ ls st A S h g1 g2 g3 g4 H locs arr hH hS hl
  unfold x_if at h; split at h
  · exact lv_if_ge X.1 X.2.1 hd ht (fun c => hJ _ _ _ _ _ (h.1 c) g1 g2 g3 g4 H locs arr hH hS hl) (fun c => hJ _ _ _ _ _ (h.2 c) g1 g2 g3 g4 H locs arr hH hS hl)
  · exact h.elim
theorem ok_if_gt {off : Int} {t : Nat} (hd : decode cc pc = .ok (.ifCond .gt off, 3)) (ht : (pc : Int) + off = (t : Int)) : Okn own cc nL hi rok pc (x_if (fun x => 0 < x) (fun x => ¬ 0 < x) t) := by
  intro p l e R s m args below meth c Q b0 H0 D cy ad adV c0 s0 cap K rn J' X _ _ hJ ls st A S h g1 g2 g3 g4 H locs arr hH hS hl
  unfold x_if at h; split at h
  · exact lv_if_gt X.1 X.2.1 hd ht (fun c => hJ _ _ _ _ _ (h.1 c) g1 g2 g3 g4 H locs arr hH hS hl) (fun c => hJ _ _ _ _ _ (h.2 c) g1 g2 g3 g4 H locs arr hH hS hl)
  · exact h.elim
theorem ok_if_le {off : Int} {t : Nat} (hd : decode cc pc = .ok (.ifCond .le off, 3)) (ht : (pc : Int) + off = (t : Int)) : Okn own cc nL hi rok pc (x_if (fun x => x ≤ 0) (fun x => ¬ x ≤ 0) t) := by
  intro p l e R s m args below meth c Q b0 H0 D cy ad adV c0 s0 cap K rn J' X _ _ hJ ls st A S h g1 g2 g3 g4 H locs arr hH hS hl
  unfold x_if at h; split at h
  · exact lv_if_le X.1 X.2.1 hd ht (fun c => hJ _ _ _ _ _ (h.1 c) g1 g2 g3 g4 H locs arr hH hS hl) (fun c => hJ _ _ _ _ _ (h.2 c) g1 g2 g3 g4 H locs arr hH hS hl)
  · exact h.elim
theorem ok_ic_eq {off : Int} {t : Nat} (hd : decode cc pc = .ok (.if_icmp .eq off, 3)) (ht : (pc : Int) + off = (t : Int)) : Okn own cc nL hi rok pc (x_ic (fun x y => x = y) (fun x y => ¬ x = y) t) := by
  intro p l e R s m args below meth c Q b0 H0 D cy ad adV c0 s0 cap K rn J' X _ _ hJ ls st A S h g1 g2 g3 g4 H locs arr hH hS hl
  unfold x_ic at h; split at h
  · exact lv_icmp_eq X.1 X.2.1 hd ht (fun c => hJ _ _ _ _ _ (h.1 c) g1 g2 g3 g4 H locs arr hH hS hl) (fun c => hJ _ _ _ _ _ (h.2 c) g1 g2 g3 g4 H locs arr hH hS hl)
  · exact h.elim
theorem ok_ic_ne {off : Int} {t : Nat} (hd : decode cc pc = .ok (.if_icmp .ne off, 3)) (ht : (pc : Int) + off = (t : Int)) : Okn own cc nL hi rok pc (x_ic (fun x y => ¬ x = y) (fun x y => x = y) t) := by
  intro p l e R s m args below meth c Q b0 H0 D cy ad adV c0 s0 cap K rn J' X _ _ hJ ls st A S h g1 g2 g3 g4 H locs arr hH hS hl
  unfold x_ic at h; split at h
  · exact lv_icmp_ne X.1 X.2.1 hd ht (fun c => hJ _ _ _ _ _ (h.1 c) g1 g2 g3 g4 H locs arr hH hS hl) (fun c => hJ _ _ _ _ _ (h.2 c) g1 g2 g3 g4 H locs arr hH hS hl)
  · exact h.elim
theorem ok_ic_lt {off : Int} {t : Nat} (hd : decode cc pc = .ok (.if_icmp .lt off, 3)) (ht : (pc : Int) + off = (t : Int)) : Okn own cc nL hi rok pc (x_ic (fun x y => x < y) (fun x y => ¬ x < y) t) := by
  intro p l e R s m args below meth c Q b0 H0 D cy ad adV c0 s0 cap K rn J' X _ _ hJ ls st A S h g1 g2 g3 g4 H locs arr hH hS hl
  unfold x_ic at h; split at h
  · exact lv_icmp_lt X.1 X.2.1 hd ht (fun c => hJ _ _ _ _ _ (h.1 c) g1 g2 g3 g4 H locs arr hH hS hl) (fun c => hJ _ _ _ _ _ (h.2 c) g1 g2 g3 g4 H locs arr hH hS hl)
  · exact h.elim
theorem ok_ic_ge {off : Int} {t : Nat} (hd : decode cc pc = .ok (.if_icmp .ge off, 3)) (ht : (pc : Int) + off = (t : Int)) : Okn own cc nL hi rok pc (x_ic (fun x y => y ≤ x) (fun x y => ¬ y ≤ x) t) := by
  intro p l e R s m args below meth c Q b0 H0 D cy ad adV c0 s0 cap K rn J' X _ _ hJ ls st A S h g1 g2 g3 g4 H locs arr hH hS hl
  unfold x_ic at h; split at h
  · exact lv_icmp_ge X.1 X.2.1 hd ht (fun c => hJ _ _ _ _ _ (h.1 c) g1 g2 g3 g4 H locs arr hH hS hl) (fun c => hJ _ _ _ _ _ (h.2 c) g1 g2 g3 g4 H locs arr hH hS hl)
  · exact h.elim
theorem ok_ic_gt {off : Int} {t : Nat} (hd : decode cc pc = .ok (.if_icmp .gt off, 3)) (ht : (pc : Int) + off = (t : Int)) : Okn own cc nL hi rok pc (x_ic (fun x y => y < x) (fun x y => ¬ y < x) t) := by
  intro p l e R s m args below meth c Q b0 H0 D cy ad adV c0 s0 cap K rn J' X _ _ hJ ls st A S h g1 g2 g3 g4 H locs arr hH hS hl
  unfold x_ic at h; split at h
  · exact lv_icmp_gt X.1 X.2.1 hd ht (fun c => hJ _ _ _ _ _ (h.1 c) g1 g2 g3 g4 H locs arr hH hS hl) (fun c => hJ _ _ _ _ _ (h.2 c) g1 g2 g3 g4 H locs arr hH hS hl)
  · exact h.elim
theorem ok_ic_le {off : Int} {t : Nat} (hd : decode cc pc = .ok (.if_icmp .le off, 3)) (ht : (pc : Int) + off = (t : Int)) : Okn own cc nL hi rok pc (x_ic (fun x y => x ≤ y) (fun x y => ¬ x ≤ y) t) := by
  intro p l e R s m args below meth c Q b0 H0 D cy ad adV c0 s0 cap K rn J' X _ _ hJ ls st A S h g1 g2 g3 g4 H locs arr hH hS hl
  unfold x_ic at h; split at h
  · exact lv_icmp_le X.1 X.2.1 hd ht (fun c => hJ _ _ _ _ _ (h.1 c) g1 g2 g3 g4 H locs arr hH hS hl) (fun c => hJ _ _ _ _ _ (h.2 c) g1 g2 g3 g4 H locs arr hH hS hl)
  · exact h.elim
theorem ok_goto {off : Int} {t : Nat} (hd : decode cc pc = .ok (.goto off, 3)) (ht : (pc : Int) + off = (t : Int)) : Okn own cc nL hi rok pc (x_goto t) := by
  intro p l e R s m args below meth c Q b0 H0 D cy ad adV c0 s0 cap K rn J' X _ _ hJ ls st A S h g1 g2 g3 g4 H locs arr hH hS hl
  exact lv_goto X.1 X.2.1 hd ht (hJ _ _ _ _ _ h g1 g2 g3 g4 H locs arr hH hS hl)
theorem ok_ifnull {off : Int} {t : Nat} (hd : decode cc pc = .ok (.ifnull off, 3)) (ht : (pc : Int) + off = (t : Int)) : Okn own cc nL hi rok pc (x_ifnull t) := by
  intro p l e R s m args below meth c Q b0 H0 D cy ad adV c0 s0 cap K rn J' X _ _ hJ ls st A S h g1 g2 g3 g4 H locs arr hH hS hl
  unfold x_ifnull at h; split at h
  · exact lv_ifnullN X.1 X.2.1 hd ht (hJ _ _ _ _ _ h g1 g2 g3 g4 H locs arr hH hS hl)
  · exact lv_ifnull X.1 X.2.1 hd (hJ _ _ _ _ _ h g1 g2 g3 g4 H locs arr hH hS hl)
  · exact h.elim
theorem ok_ifnonnull {off : Int} {t : Nat} (hd : decode cc pc = .ok (.ifnonnull off, 3)) (ht : (pc : Int) + off = (t : Int)) : Okn own cc nL hi rok pc (x_ifnonnull t) := by
  intro p l e R s m args below meth c Q b0 H0 D cy ad adV c0 s0 cap K rn J' X _ _ hJ ls st A S h g1 g2 g3 g4 H locs arr hH hS hl
  unfold x_ifnonnull at h; split at h
  · exact lv_ifnonnullN X.1 X.2.1 hd (hJ _ _ _ _ _ h g1 g2 g3 g4 H locs arr hH hS hl)
  · exact lv_ifnonnull X.1 X.2.1 hd ht (hJ _ _ _ _ _ h g1 g2 g3 g4 H locs arr hH hS hl)
  · exact h.elim
/-- the rows of a switch: the numbers from lo on, their targets -/
theorem swf_in {d : Nat} {x : Int32} {K : Nat → Prop} : ∀ {cs : List (Int32 × Nat)}, swf d x K cs → (∃ (i : Nat) (v : Int32) (t : Nat), cs[i]? = some (v, t) ∧ x = v ∧ K t) ∨ ((∀ (i : Nat) (v : Int32) (t : Nat), cs[i]? = some (v, t) → ¬ x = v) ∧ K d)
  | [], h => Or.inr ⟨fun i v t q => by simp at q, h⟩
  | (v, t) :: cs, h => by
    by_cases hx : x = v
    · exact Or.inl ⟨0, v, t, rfl, hx, h.1 hx⟩
    · rcases swf_in (h.2 hx) with ⟨i, v', t', h1, h2, h3⟩ | ⟨h1, h2⟩
      · exact Or.inl ⟨i + 1, v', t', by simpa using h1, h2, h3⟩
      · refine Or.inr ⟨fun i v' t' q => ?_, h2⟩
        cases i with
        | zero => simp at q; rw [← q.1]; exact hx
        | succ i => exact h1 i v' t' (by simpa using q)
theorem ok_tsw {dflt lo hi' : Int} {offs : Array Int} {len d : Nat} {cs : List (Int32 × Nat)} (hd : decode cc pc = .ok (.tableswitch dflt lo hi' offs, len)) (hdf : (pc : Int) + dflt = (d : Int)) (hn : (cs.length : Int) = hi' - lo + 1)
    (hcs : ∀ i, i < cs.length → (cs[i]?.map fun q => (q.1.toInt, (q.2 : Int))) = (offs[i]?.map fun o => (lo + (i : Int), (pc : Int) + o))) (hlo : -2147483648 ≤ lo ∧ hi' < 2147483648) : Okn own cc nL hi rok pc (x_sw cs d) := by
  intro p l e R s m args below meth c Q b0 H0 D cy ad adV c0 s0 cap K rn J' X _ _ hJ ls st A S h g1 g2 g3 g4 H locs arr hH hS hl
  unfold x_sw at h; split at h
  · rename_i x st'
    rcases swf_in h with ⟨i, v, t, h1, h2, h3⟩ | ⟨h1, h2⟩
    · have hi1 : i < cs.length := (List.getElem?_eq_some_iff.mp h1).1
      have h4 := hcs i hi1
      rw [h1] at h4
      cases ho : offs[i]? with
      | none => rw [ho] at h4; simp at h4
      | some o =>
        rw [ho] at h4
        simp at h4
        subst h2
        refine lv_tableIn (off := o) (tgt := t) X.1 X.2.1 hd (by omega) (by omega) ?_ (by omega) (hJ _ _ _ _ _ h3 g1 g2 g3 g4 H locs arr hH hS hl)
        rw [show (x.toInt - lo).toNat = i by omega]
        exact ho
    · refine lv_tableOut (tgt := d) X.1 X.2.1 hd ?_ hdf (hJ _ _ _ _ _ h2 g1 g2 g3 g4 H locs arr hH hS hl)
      by_cases q1 : x.toInt < lo
      · exact Or.inl q1
      · by_cases q2 : hi' < x.toInt
        · exact Or.inr q2
        · exfalso
          have hi1 : (x.toInt - lo).toNat < cs.length := by omega
          obtain ⟨⟨v, t⟩, hv⟩ : ∃ q, cs[(x.toInt - lo).toNat]? = some q := ⟨_, List.getElem?_eq_getElem hi1⟩
          have h4 := hcs _ hi1
          rw [hv] at h4
          cases ho : offs[(x.toInt - lo).toNat]? with
          | none => rw [ho] at h4; simp at h4
          | some o =>
            rw [ho] at h4
            simp at h4
            exact h1 _ _ _ hv (Int32.toInt_inj.mp (by omega))
  · exact h.elim
theorem ok_lsw {dflt : Int} {ps : Array (Int × Int)} {len d : Nat} {cs : List (Int32 × Nat)} (hd : decode cc pc = .ok (.lookupswitch dflt ps, len)) (hdf : (pc : Int) + dflt = (d : Int)) (hp : (ps.toList.zip (ps.toList.drop 1)).all (fun (a, next) => a.1 < next.1) = true)
    (hcs : (cs.map fun q => (q.1.toInt, (q.2 : Int))) = ps.toList.map fun o => (o.1, (pc : Int) + o.2)) : Okn own cc nL hi rok pc (x_sw cs d) := by
  intro p l e R s m args below meth c Q b0 H0 D cy ad adV c0 s0 cap K rn J' X _ _ hJ ls st A S h g1 g2 g3 g4 H locs arr hH hS hl
  unfold x_sw at h; split at h
  · rename_i x st'
    have key : ∀ (cs : List (Int32 × Nat)) (ps : List (Int × Int)), (cs.map fun q => (q.1.toInt, (q.2 : Int))) = ps.map (fun o => (o.1, (pc : Int) + o.2)) → swf d x (fun t => J' t ls st' A S) cs → ∃ t : Nat, (pc : Int) + Op.lookupswitch.offset ps dflt x.toInt = (t : Int) ∧ J' t ls st' A S := by
      intro cs
      induction cs with
      | nil =>
        intro ps he hs
        cases ps with
        | nil => exact ⟨d, hdf, hs⟩
        | cons q r => simp at he
      | cons q r ih =>
        intro ps he hs
        cases ps with
        | nil => simp at he
        | cons o r' =>
          obtain ⟨v, t⟩ := q
          obtain ⟨a, o⟩ := o
          simp at he
          obtain ⟨⟨e1, e2⟩, e3⟩ := he
          by_cases hx : x = v
          · refine ⟨t, ?_, hs.1 hx⟩
            rw [e2]
            simp [Op.lookupswitch.offset, hx, e1]
          · obtain ⟨t', h1, h2⟩ := ih r' (by simpa using e3) (hs.2 hx)
            refine ⟨t', ?_, h2⟩
            rw [lv_osw hx e1]
            exact h1
    obtain ⟨t, h1, h2⟩ := key cs ps.toList hcs h
    exact lv_lookup X.1 X.2.1 hd hp rfl h1 (hJ _ _ _ _ _ h2 g1 g2 g3 g4 H locs arr hH hS hl)
  · exact h.elim
end

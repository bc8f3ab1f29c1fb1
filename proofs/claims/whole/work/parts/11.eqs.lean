/-! the equations of Run (written by wip/whole/eqs.py) -/
theorem R_iconst {d k pc pc' : Nat} {ls st : List MV} {h : MH} {n v : Int} (hf : fetch k pc = some (.iconst n, 1)) (hv : wI n = v) (hp : pc + 1 = pc') : Run d k pc ls st h = Run d k pc' ls (.inl v :: st) h := by
  subst hp
  rw [Run_def]
  unfold stp
  rw [hf]
  subst hv
  all_goals rfl
theorem R_bipush {d k pc pc' : Nat} {ls st : List MV} {h : MH} {n v : Int} (hf : fetch k pc = some (.bipush n, 2)) (hv : toB n = v) (hp : pc + 2 = pc') : Run d k pc ls st h = Run d k pc' ls (.inl v :: st) h := by
  subst hp
  rw [Run_def]
  unfold stp
  rw [hf]
  subst hv
  all_goals rfl
theorem R_sipush {d k pc pc' : Nat} {ls st : List MV} {h : MH} {n v : Int} (hf : fetch k pc = some (.sipush n, 3)) (hv : (Int16.ofInt n).toInt32.toInt = v) (hp : pc + 3 = pc') : Run d k pc ls st h = Run d k pc' ls (.inl v :: st) h := by
  subst hp
  rw [Run_def]
  unfold stp
  rw [hf]
  subst hv
  all_goals rfl
theorem R_lconst {d k pc pc' : Nat} {ls st : List MV} {h : MH} {n : Fin 2} {v : Int} (hf : fetch k pc = some (.lconst n, 1)) (hv : (n.val : Int) = v) (hp : pc + 1 = pc') : Run d k pc ls st h = Run d k pc' ls (.inr (.inl v) :: st) h := by
  subst hp
  rw [Run_def]
  unfold stp
  rw [hf]
  subst hv
  all_goals rfl
theorem R_iload_n {d k pc pc' : Nat} {ls st : List MV} {h : MH} {n : Fin 4} {x : Int} (hf : fetch k pc = some (.iload_n n, 1)) (hl : ls[n.val]? = some (.inl x)) (hp : pc + 1 = pc') : Run d k pc ls st h = Run d k pc' ls ((.inl x) :: st) h := by
  subst hp
  rw [Run_def]
  unfold stp
  rw [hf]
  try dsimp only
  rw [if_pos rfl, hl]
  all_goals rfl
theorem R_iload {d k pc pc' : Nat} {ls st : List MV} {h : MH} {n : Nat} {x : Int} (hf : fetch k pc = some (.iload n, 2)) (hl : ls[n]? = some (.inl x)) (hp : pc + 2 = pc') : Run d k pc ls st h = Run d k pc' ls ((.inl x) :: st) h := by
  subst hp
  rw [Run_def]
  unfold stp
  rw [hf]
  try dsimp only
  rw [if_pos rfl, hl]
  all_goals rfl
theorem R_lload_n {d k pc pc' : Nat} {ls st : List MV} {h : MH} {n : Fin 4} {x : Int} (hf : fetch k pc = some (.lload_n n, 1)) (hl : ls[n.val]? = some (.inr (.inl x))) (hp : pc + 1 = pc') : Run d k pc ls st h = Run d k pc' ls ((.inr (.inl x)) :: st) h := by
  subst hp
  rw [Run_def]
  unfold stp
  rw [hf]
  try dsimp only
  rw [if_pos rfl, hl]
  all_goals rfl
theorem R_lload {d k pc pc' : Nat} {ls st : List MV} {h : MH} {n : Nat} {x : Int} (hf : fetch k pc = some (.lload n, 2)) (hl : ls[n]? = some (.inr (.inl x))) (hp : pc + 2 = pc') : Run d k pc ls st h = Run d k pc' ls ((.inr (.inl x)) :: st) h := by
  subst hp
  rw [Run_def]
  unfold stp
  rw [hf]
  try dsimp only
  rw [if_pos rfl, hl]
  all_goals rfl
theorem R_aload_n {d k pc pc' : Nat} {ls st : List MV} {h : MH} {n : Fin 4} {a : Nat} (hf : fetch k pc = some (.aload_n n, 1)) (hl : ls[n.val]? = some (.inr (.inr (.inl a)))) (ha : a < nC) (hp : pc + 1 = pc') : Run d k pc ls st h = Run d k pc' ls ((.inr (.inr (.inl a))) :: st) h := by
  subst hp
  rw [Run_def]
  unfold stp
  rw [hf]
  try dsimp only
  rw [if_pos rfl, hl]
  try dsimp only
  rw [if_pos ha]
theorem R_aload {d k pc pc' : Nat} {ls st : List MV} {h : MH} {n : Nat} {a : Nat} (hf : fetch k pc = some (.aload n, 2)) (hl : ls[n]? = some (.inr (.inr (.inl a)))) (ha : a < nC) (hp : pc + 2 = pc') : Run d k pc ls st h = Run d k pc' ls ((.inr (.inr (.inl a))) :: st) h := by
  subst hp
  rw [Run_def]
  unfold stp
  rw [hf]
  try dsimp only
  rw [if_pos rfl, hl]
  try dsimp only
  rw [if_pos ha]
theorem R_istore_n {d k pc pc' : Nat} {ls st : List MV} {h : MH} {n : Fin 4} {x : Int} {ls' : List MV} (hf : fetch k pc = some (.istore_n n, 1)) (hl : n.val < ls.length) (he : st1 ls n.val (.inl x) = ls') (hp : pc + 1 = pc') : Run d k pc ls ((.inl x) :: st) h = Run d k pc' ls' st h := by
  subst hp
  rw [Run_def]
  unfold stp
  rw [hf]
  subst he
  try dsimp only
  rw [if_pos rfl, if_pos hl]
theorem R_istore {d k pc pc' : Nat} {ls st : List MV} {h : MH} {n : Nat} {x : Int} {ls' : List MV} (hf : fetch k pc = some (.istore n, 2)) (hl : n < ls.length) (he : st1 ls n (.inl x) = ls') (hp : pc + 2 = pc') : Run d k pc ls ((.inl x) :: st) h = Run d k pc' ls' st h := by
  subst hp
  rw [Run_def]
  unfold stp
  rw [hf]
  subst he
  try dsimp only
  rw [if_pos rfl, if_pos hl]
theorem R_lstore_n {d k pc pc' : Nat} {ls st : List MV} {h : MH} {n : Fin 4} {x : Int} {ls' : List MV} (hf : fetch k pc = some (.lstore_n n, 1)) (hl : n.val + 1 < ls.length) (he : st2 ls n.val (.inr (.inl x)) = ls') (hp : pc + 1 = pc') : Run d k pc ls ((.inr (.inl x)) :: st) h = Run d k pc' ls' st h := by
  subst hp
  rw [Run_def]
  unfold stp
  rw [hf]
  subst he
  try dsimp only
  rw [if_pos rfl, if_pos hl]
theorem R_lstore {d k pc pc' : Nat} {ls st : List MV} {h : MH} {n : Nat} {x : Int} {ls' : List MV} (hf : fetch k pc = some (.lstore n, 2)) (hl : n + 1 < ls.length) (he : st2 ls n (.inr (.inl x)) = ls') (hp : pc + 2 = pc') : Run d k pc ls ((.inr (.inl x)) :: st) h = Run d k pc' ls' st h := by
  subst hp
  rw [Run_def]
  unfold stp
  rw [hf]
  subst he
  try dsimp only
  rw [if_pos rfl, if_pos hl]
theorem R_astore_n {d k pc pc' : Nat} {ls st : List MV} {h : MH} {n : Fin 4} {a : Nat} {ls' : List MV} (hf : fetch k pc = some (.astore_n n, 1)) (hl : n.val < ls.length) (ha : a < nC) (he : st1 ls n.val (.inr (.inr (.inl a))) = ls') (hp : pc + 1 = pc') : Run d k pc ls ((.inr (.inr (.inl a))) :: st) h = Run d k pc' ls' st h := by
  subst hp
  rw [Run_def]
  unfold stp
  rw [hf]
  subst he
  try dsimp only
  rw [if_pos rfl, if_pos ⟨hl, ha⟩]
theorem R_astore {d k pc pc' : Nat} {ls st : List MV} {h : MH} {n : Nat} {a : Nat} {ls' : List MV} (hf : fetch k pc = some (.astore n, 2)) (hl : n < ls.length) (ha : a < nC) (he : st1 ls n (.inr (.inr (.inl a))) = ls') (hp : pc + 2 = pc') : Run d k pc ls ((.inr (.inr (.inl a))) :: st) h = Run d k pc' ls' st h := by
  subst hp
  rw [Run_def]
  unfold stp
  rw [hf]
  subst he
  try dsimp only
  rw [if_pos rfl, if_pos ⟨hl, ha⟩]
theorem R_iinc {d k pc pc' : Nat} {ls st : List MV} {h : MH} {n : Nat} {i x : Int} {ls' : List MV} (hf : fetch k pc = some (.iinc n i, 3)) (hl : ls[n]? = some (.inl x)) (he : st1 ls n (.inl (wI (x + i))) = ls') (hp : pc + 3 = pc') : Run d k pc ls st h = Run d k pc' ls' st h := by
  subst hp
  rw [Run_def]
  unfold stp
  rw [hf]
  subst he
  try dsimp only
  rw [if_pos rfl, hl]
  all_goals rfl
theorem R_iadd {d k pc pc' : Nat} {ls st : List MV} {h : MH} {x y : Int} (hf : fetch k pc = some (.iadd, 1))  (hp : pc + 1 = pc') : Run d k pc ls (.inl y :: .inl x :: st) h = Run d k pc' ls (.inl (wI (x + y)) :: st) h := by
  subst hp
  rw [Run_def]
  unfold stp
  rw [hf]
  all_goals rfl
theorem R_isub {d k pc pc' : Nat} {ls st : List MV} {h : MH} {x y : Int} (hf : fetch k pc = some (.isub, 1))  (hp : pc + 1 = pc') : Run d k pc ls (.inl y :: .inl x :: st) h = Run d k pc' ls (.inl (wI (x - y)) :: st) h := by
  subst hp
  rw [Run_def]
  unfold stp
  rw [hf]
  all_goals rfl
theorem R_imul {d k pc pc' : Nat} {ls st : List MV} {h : MH} {x y : Int} (hf : fetch k pc = some (.imul, 1))  (hp : pc + 1 = pc') : Run d k pc ls (.inl y :: .inl x :: st) h = Run d k pc' ls (.inl (wI (x * y)) :: st) h := by
  subst hp
  rw [Run_def]
  unfold stp
  rw [hf]
  all_goals rfl
theorem R_iand {d k pc pc' : Nat} {ls st : List MV} {h : MH} {x y : Int} (hf : fetch k pc = some (.iand, 1))  (hp : pc + 1 = pc') : Run d k pc ls (.inl y :: .inl x :: st) h = Run d k pc' ls (.inl (iAnd x y) :: st) h := by
  subst hp
  rw [Run_def]
  unfold stp
  rw [hf]
  all_goals rfl
theorem R_ior {d k pc pc' : Nat} {ls st : List MV} {h : MH} {x y : Int} (hf : fetch k pc = some (.ior, 1))  (hp : pc + 1 = pc') : Run d k pc ls (.inl y :: .inl x :: st) h = Run d k pc' ls (.inl (iOr x y) :: st) h := by
  subst hp
  rw [Run_def]
  unfold stp
  rw [hf]
  all_goals rfl
theorem R_ixor {d k pc pc' : Nat} {ls st : List MV} {h : MH} {x y : Int} (hf : fetch k pc = some (.ixor, 1))  (hp : pc + 1 = pc') : Run d k pc ls (.inl y :: .inl x :: st) h = Run d k pc' ls (.inl (iXor x y) :: st) h := by
  subst hp
  rw [Run_def]
  unfold stp
  rw [hf]
  all_goals rfl
theorem R_ishl {d k pc pc' : Nat} {ls st : List MV} {h : MH} {x y : Int} (hf : fetch k pc = some (.ishl, 1))  (hp : pc + 1 = pc') : Run d k pc ls (.inl y :: .inl x :: st) h = Run d k pc' ls (.inl (iShl x y) :: st) h := by
  subst hp
  rw [Run_def]
  unfold stp
  rw [hf]
  all_goals rfl
theorem R_ishr {d k pc pc' : Nat} {ls st : List MV} {h : MH} {x y : Int} (hf : fetch k pc = some (.ishr, 1))  (hp : pc + 1 = pc') : Run d k pc ls (.inl y :: .inl x :: st) h = Run d k pc' ls (.inl (iShr x y) :: st) h := by
  subst hp
  rw [Run_def]
  unfold stp
  rw [hf]
  all_goals rfl
theorem R_iushr {d k pc pc' : Nat} {ls st : List MV} {h : MH} {x y : Int} (hf : fetch k pc = some (.iushr, 1))  (hp : pc + 1 = pc') : Run d k pc ls (.inl y :: .inl x :: st) h = Run d k pc' ls (.inl (iUshr x y) :: st) h := by
  subst hp
  rw [Run_def]
  unfold stp
  rw [hf]
  all_goals rfl
theorem R_ladd {d k pc pc' : Nat} {ls st : List MV} {h : MH} {x y : Int} (hf : fetch k pc = some (.ladd, 1))  (hp : pc + 1 = pc') : Run d k pc ls (.inr (.inl y) :: .inr (.inl x) :: st) h = Run d k pc' ls (.inr (.inl (wL (x + y))) :: st) h := by
  subst hp
  rw [Run_def]
  unfold stp
  rw [hf]
  all_goals rfl
theorem R_lsub {d k pc pc' : Nat} {ls st : List MV} {h : MH} {x y : Int} (hf : fetch k pc = some (.lsub, 1))  (hp : pc + 1 = pc') : Run d k pc ls (.inr (.inl y) :: .inr (.inl x) :: st) h = Run d k pc' ls (.inr (.inl (wL (x - y))) :: st) h := by
  subst hp
  rw [Run_def]
  unfold stp
  rw [hf]
  all_goals rfl
theorem R_lmul {d k pc pc' : Nat} {ls st : List MV} {h : MH} {x y : Int} (hf : fetch k pc = some (.lmul, 1))  (hp : pc + 1 = pc') : Run d k pc ls (.inr (.inl y) :: .inr (.inl x) :: st) h = Run d k pc' ls (.inr (.inl (wL (x * y))) :: st) h := by
  subst hp
  rw [Run_def]
  unfold stp
  rw [hf]
  all_goals rfl
theorem R_land {d k pc pc' : Nat} {ls st : List MV} {h : MH} {x y : Int} (hf : fetch k pc = some (.land, 1))  (hp : pc + 1 = pc') : Run d k pc ls (.inr (.inl y) :: .inr (.inl x) :: st) h = Run d k pc' ls (.inr (.inl (lAnd x y)) :: st) h := by
  subst hp
  rw [Run_def]
  unfold stp
  rw [hf]
  all_goals rfl
theorem R_lor {d k pc pc' : Nat} {ls st : List MV} {h : MH} {x y : Int} (hf : fetch k pc = some (.lor, 1))  (hp : pc + 1 = pc') : Run d k pc ls (.inr (.inl y) :: .inr (.inl x) :: st) h = Run d k pc' ls (.inr (.inl (lOr x y)) :: st) h := by
  subst hp
  rw [Run_def]
  unfold stp
  rw [hf]
  all_goals rfl
theorem R_lshl {d k pc pc' : Nat} {ls st : List MV} {h : MH} {x y : Int} (hf : fetch k pc = some (.lshl, 1))  (hp : pc + 1 = pc') : Run d k pc ls (.inl y :: .inr (.inl x) :: st) h = Run d k pc' ls (.inr (.inl (lShl x y)) :: st) h := by
  subst hp
  rw [Run_def]
  unfold stp
  rw [hf]
  all_goals rfl
theorem R_lushr {d k pc pc' : Nat} {ls st : List MV} {h : MH} {x y : Int} (hf : fetch k pc = some (.lushr, 1))  (hp : pc + 1 = pc') : Run d k pc ls (.inl y :: .inr (.inl x) :: st) h = Run d k pc' ls (.inr (.inl (lUshr x y)) :: st) h := by
  subst hp
  rw [Run_def]
  unfold stp
  rw [hf]
  all_goals rfl
theorem R_lcmp {d k pc pc' : Nat} {ls st : List MV} {h : MH} {x y : Int} (hf : fetch k pc = some (.lcmp, 1))  (hp : pc + 1 = pc') : Run d k pc ls (.inr (.inl y) :: .inr (.inl x) :: st) h = Run d k pc' ls (.inl (cmpL x y) :: st) h := by
  subst hp
  rw [Run_def]
  unfold stp
  rw [hf]
  all_goals rfl
theorem R_idiv {d k pc pc' : Nat} {ls st : List MV} {h : MH} {x y : Int} (hf : fetch k pc = some (.idiv, 1)) (hy : ¬ y = 0) (hp : pc + 1 = pc') : Run d k pc ls ((.inl y) :: (.inl x) :: st) h = Run d k pc' ls ((.inl (wI (x.tdiv y))) :: st) h := by
  subst hp
  rw [Run_def]
  unfold stp
  rw [hf]
  try dsimp only
  rw [if_pos rfl, if_neg hy]
theorem R_idiv0 {d k pc pc' : Nat} {ls st : List MV} {h : MH} {x y : Int} (hf : fetch k pc = some (.idiv, 1)) (hp : pc + 1 = pc') : Run d k pc ls ((.inl y) :: (.inl x) :: st) h = if y = 0 then none else Run d k pc' ls ((.inl (wI (x.tdiv y))) :: st) h := by
  subst hp
  rw [Run_def]
  unfold stp
  rw [hf]
  rfl
theorem R_irem {d k pc pc' : Nat} {ls st : List MV} {h : MH} {x y : Int} (hf : fetch k pc = some (.irem, 1)) (hy : ¬ y = 0) (hp : pc + 1 = pc') : Run d k pc ls ((.inl y) :: (.inl x) :: st) h = Run d k pc' ls ((.inl (x.tmod y)) :: st) h := by
  subst hp
  rw [Run_def]
  unfold stp
  rw [hf]
  try dsimp only
  rw [if_pos rfl, if_neg hy]
theorem R_irem0 {d k pc pc' : Nat} {ls st : List MV} {h : MH} {x y : Int} (hf : fetch k pc = some (.irem, 1)) (hp : pc + 1 = pc') : Run d k pc ls ((.inl y) :: (.inl x) :: st) h = if y = 0 then none else Run d k pc' ls ((.inl (x.tmod y)) :: st) h := by
  subst hp
  rw [Run_def]
  unfold stp
  rw [hf]
  rfl
theorem R_ldiv {d k pc pc' : Nat} {ls st : List MV} {h : MH} {x y : Int} (hf : fetch k pc = some (.ldiv, 1)) (hy : ¬ y = 0) (hp : pc + 1 = pc') : Run d k pc ls ((.inr (.inl y)) :: (.inr (.inl x)) :: st) h = Run d k pc' ls ((.inr (.inl (wL (x.tdiv y)))) :: st) h := by
  subst hp
  rw [Run_def]
  unfold stp
  rw [hf]
  try dsimp only
  rw [if_pos rfl, if_neg hy]
theorem R_ldiv0 {d k pc pc' : Nat} {ls st : List MV} {h : MH} {x y : Int} (hf : fetch k pc = some (.ldiv, 1)) (hp : pc + 1 = pc') : Run d k pc ls ((.inr (.inl y)) :: (.inr (.inl x)) :: st) h = if y = 0 then none else Run d k pc' ls ((.inr (.inl (wL (x.tdiv y)))) :: st) h := by
  subst hp
  rw [Run_def]
  unfold stp
  rw [hf]
  rfl
theorem R_lrem {d k pc pc' : Nat} {ls st : List MV} {h : MH} {x y : Int} (hf : fetch k pc = some (.lrem, 1)) (hy : ¬ y = 0) (hp : pc + 1 = pc') : Run d k pc ls ((.inr (.inl y)) :: (.inr (.inl x)) :: st) h = Run d k pc' ls ((.inr (.inl (x.tmod y))) :: st) h := by
  subst hp
  rw [Run_def]
  unfold stp
  rw [hf]
  try dsimp only
  rw [if_pos rfl, if_neg hy]
theorem R_lrem0 {d k pc pc' : Nat} {ls st : List MV} {h : MH} {x y : Int} (hf : fetch k pc = some (.lrem, 1)) (hp : pc + 1 = pc') : Run d k pc ls ((.inr (.inl y)) :: (.inr (.inl x)) :: st) h = if y = 0 then none else Run d k pc' ls ((.inr (.inl (x.tmod y))) :: st) h := by
  subst hp
  rw [Run_def]
  unfold stp
  rw [hf]
  rfl
theorem R_ineg {d k pc pc' : Nat} {ls st : List MV} {h : MH} {x : Int} (hf : fetch k pc = some (.ineg, 1))  (hp : pc + 1 = pc') : Run d k pc ls (.inl x :: st) h = Run d k pc' ls (.inl (wI (-x)) :: st) h := by
  subst hp
  rw [Run_def]
  unfold stp
  rw [hf]
  all_goals rfl
theorem R_lneg {d k pc pc' : Nat} {ls st : List MV} {h : MH} {x : Int} (hf : fetch k pc = some (.lneg, 1))  (hp : pc + 1 = pc') : Run d k pc ls (.inr (.inl x) :: st) h = Run d k pc' ls (.inr (.inl (wL (-x))) :: st) h := by
  subst hp
  rw [Run_def]
  unfold stp
  rw [hf]
  all_goals rfl
theorem R_i2l {d k pc pc' : Nat} {ls st : List MV} {h : MH} {x : Int} (hf : fetch k pc = some (.i2l, 1))  (hp : pc + 1 = pc') : Run d k pc ls (.inl x :: st) h = Run d k pc' ls (.inr (.inl x) :: st) h := by
  subst hp
  rw [Run_def]
  unfold stp
  rw [hf]
  all_goals rfl
theorem R_l2i {d k pc pc' : Nat} {ls st : List MV} {h : MH} {x : Int} (hf : fetch k pc = some (.l2i, 1))  (hp : pc + 1 = pc') : Run d k pc ls (.inr (.inl x) :: st) h = Run d k pc' ls (.inl (wI x) :: st) h := by
  subst hp
  rw [Run_def]
  unfold stp
  rw [hf]
  all_goals rfl
theorem R_i2b {d k pc pc' : Nat} {ls st : List MV} {h : MH} {x : Int} (hf : fetch k pc = some (.i2b, 1))  (hp : pc + 1 = pc') : Run d k pc ls (.inl x :: st) h = Run d k pc' ls (.inl (toB x) :: st) h := by
  subst hp
  rw [Run_def]
  unfold stp
  rw [hf]
  all_goals rfl
theorem R_i2c {d k pc pc' : Nat} {ls st : List MV} {h : MH} {x : Int} (hf : fetch k pc = some (.i2c, 1))  (hp : pc + 1 = pc') : Run d k pc ls (.inl x :: st) h = Run d k pc' ls (.inl (toC x) :: st) h := by
  subst hp
  rw [Run_def]
  unfold stp
  rw [hf]
  all_goals rfl
theorem R_dup {d k pc pc' : Nat} {ls st : List MV} {h : MH} {v : MV} (hf : fetch k pc = some (.dup, 1)) (hc : cat v = 1) (hp : pc + 1 = pc') : Run d k pc ls (v :: st) h = Run d k pc' ls (v :: v :: st) h := by
  subst hp
  rw [Run_def]
  unfold stp
  rw [hf]
  try dsimp only
  rw [if_pos rfl, if_pos hc]
theorem R_pop {d k pc pc' : Nat} {ls st : List MV} {h : MH} {v : MV} (hf : fetch k pc = some (.pop, 1)) (hc : cat v = 1) (hp : pc + 1 = pc') : Run d k pc ls (v :: st) h = Run d k pc' ls st h := by
  subst hp
  rw [Run_def]
  unfold stp
  rw [hf]
  try dsimp only
  rw [if_pos rfl, if_pos hc]
theorem R_dup2 {d k pc pc' : Nat} {ls st : List MV} {h : MH} {v u : MV} (hf : fetch k pc = some (.dup2, 1)) (hc : cat v = 1) (hc2 : cat u = 1) (hp : pc + 1 = pc') : Run d k pc ls (v :: u :: st) h = Run d k pc' ls (v :: u :: v :: u :: st) h := by
  subst hp
  rw [Run_def]
  unfold stp
  rw [hf]
  try dsimp only
  rw [if_pos rfl, if_pos ⟨hc, hc2⟩]
theorem R_goto {d k pc : Nat} {ls st : List MV} {h : MH} {q : Int} {t : Nat} (hf : fetch k pc = some (.goto q, 3)) (ht : (pc : Int) + q = (t : Int)) : Run d k pc ls st h = Run d k t ls st h := by
  rw [Run_def]
  unfold stp
  rw [hf]
  dsimp only
  rw [if_pos rfl, if_pos (by omega), ht]
  rfl
theorem R_if_eq {d k pc pc' : Nat} {ls st : List MV} {h : MH} {x q : Int} {t : Nat} (hf : fetch k pc = some (.ifCond .eq q, 3)) (ht : (pc : Int) + q = (t : Int)) (hp : pc + 3 = pc') : Run d k pc ls (.inl x :: st) h = if x = 0 then Run d k t ls st h else Run d k pc' ls st h := by
  subst hp
  rw [Run_def]
  unfold stp
  rw [hf]
  dsimp only
  rw [if_pos rfl, if_pos (by omega), ht]
  have e : (tst .eq x 0 = true) = (x = 0) := by simp [tst]
  simp only [e]
  rfl
theorem R_icmp_eq {d k pc pc' : Nat} {ls st : List MV} {h : MH} {x y q : Int} {t : Nat} (hf : fetch k pc = some (.if_icmp .eq q, 3)) (ht : (pc : Int) + q = (t : Int)) (hp : pc + 3 = pc') : Run d k pc ls (.inl y :: .inl x :: st) h = if x = y then Run d k t ls st h else Run d k pc' ls st h := by
  subst hp
  rw [Run_def]
  unfold stp
  rw [hf]
  dsimp only
  rw [if_pos rfl, if_pos (by omega), ht]
  have e : (tst .eq x y = true) = (x = y) := by simp [tst]
  simp only [e]
  rfl
theorem R_if_ne {d k pc pc' : Nat} {ls st : List MV} {h : MH} {x q : Int} {t : Nat} (hf : fetch k pc = some (.ifCond .ne q, 3)) (ht : (pc : Int) + q = (t : Int)) (hp : pc + 3 = pc') : Run d k pc ls (.inl x :: st) h = if ¬ x = 0 then Run d k t ls st h else Run d k pc' ls st h := by
  subst hp
  rw [Run_def]
  unfold stp
  rw [hf]
  dsimp only
  rw [if_pos rfl, if_pos (by omega), ht]
  have e : (tst .ne x 0 = true) = (¬ x = 0) := by simp [tst]
  simp only [e]
  rfl
theorem R_icmp_ne {d k pc pc' : Nat} {ls st : List MV} {h : MH} {x y q : Int} {t : Nat} (hf : fetch k pc = some (.if_icmp .ne q, 3)) (ht : (pc : Int) + q = (t : Int)) (hp : pc + 3 = pc') : Run d k pc ls (.inl y :: .inl x :: st) h = if ¬ x = y then Run d k t ls st h else Run d k pc' ls st h := by
  subst hp
  rw [Run_def]
  unfold stp
  rw [hf]
  dsimp only
  rw [if_pos rfl, if_pos (by omega), ht]
  have e : (tst .ne x y = true) = (¬ x = y) := by simp [tst]
  simp only [e]
  rfl
theorem R_if_lt {d k pc pc' : Nat} {ls st : List MV} {h : MH} {x q : Int} {t : Nat} (hf : fetch k pc = some (.ifCond .lt q, 3)) (ht : (pc : Int) + q = (t : Int)) (hp : pc + 3 = pc') : Run d k pc ls (.inl x :: st) h = if x < 0 then Run d k t ls st h else Run d k pc' ls st h := by
  subst hp
  rw [Run_def]
  unfold stp
  rw [hf]
  dsimp only
  rw [if_pos rfl, if_pos (by omega), ht]
  have e : (tst .lt x 0 = true) = (x < 0) := by simp [tst]
  simp only [e]
  rfl
theorem R_icmp_lt {d k pc pc' : Nat} {ls st : List MV} {h : MH} {x y q : Int} {t : Nat} (hf : fetch k pc = some (.if_icmp .lt q, 3)) (ht : (pc : Int) + q = (t : Int)) (hp : pc + 3 = pc') : Run d k pc ls (.inl y :: .inl x :: st) h = if x < y then Run d k t ls st h else Run d k pc' ls st h := by
  subst hp
  rw [Run_def]
  unfold stp
  rw [hf]
  dsimp only
  rw [if_pos rfl, if_pos (by omega), ht]
  have e : (tst .lt x y = true) = (x < y) := by simp [tst]
  simp only [e]
  rfl
theorem R_if_ge {d k pc pc' : Nat} {ls st : List MV} {h : MH} {x q : Int} {t : Nat} (hf : fetch k pc = some (.ifCond .ge q, 3)) (ht : (pc : Int) + q = (t : Int)) (hp : pc + 3 = pc') : Run d k pc ls (.inl x :: st) h = if 0 ≤ x then Run d k t ls st h else Run d k pc' ls st h := by
  subst hp
  rw [Run_def]
  unfold stp
  rw [hf]
  dsimp only
  rw [if_pos rfl, if_pos (by omega), ht]
  have e : (tst .ge x 0 = true) = (0 ≤ x) := by simp [tst]
  simp only [e]
  rfl
theorem R_icmp_ge {d k pc pc' : Nat} {ls st : List MV} {h : MH} {x y q : Int} {t : Nat} (hf : fetch k pc = some (.if_icmp .ge q, 3)) (ht : (pc : Int) + q = (t : Int)) (hp : pc + 3 = pc') : Run d k pc ls (.inl y :: .inl x :: st) h = if y ≤ x then Run d k t ls st h else Run d k pc' ls st h := by
  subst hp
  rw [Run_def]
  unfold stp
  rw [hf]
  dsimp only
  rw [if_pos rfl, if_pos (by omega), ht]
  have e : (tst .ge x y = true) = (y ≤ x) := by simp [tst]
  simp only [e]
  rfl
theorem R_if_gt {d k pc pc' : Nat} {ls st : List MV} {h : MH} {x q : Int} {t : Nat} (hf : fetch k pc = some (.ifCond .gt q, 3)) (ht : (pc : Int) + q = (t : Int)) (hp : pc + 3 = pc') : Run d k pc ls (.inl x :: st) h = if 0 < x then Run d k t ls st h else Run d k pc' ls st h := by
  subst hp
  rw [Run_def]
  unfold stp
  rw [hf]
  dsimp only
  rw [if_pos rfl, if_pos (by omega), ht]
  have e : (tst .gt x 0 = true) = (0 < x) := by simp [tst]
  simp only [e]
  rfl
theorem R_icmp_gt {d k pc pc' : Nat} {ls st : List MV} {h : MH} {x y q : Int} {t : Nat} (hf : fetch k pc = some (.if_icmp .gt q, 3)) (ht : (pc : Int) + q = (t : Int)) (hp : pc + 3 = pc') : Run d k pc ls (.inl y :: .inl x :: st) h = if y < x then Run d k t ls st h else Run d k pc' ls st h := by
  subst hp
  rw [Run_def]
  unfold stp
  rw [hf]
  dsimp only
  rw [if_pos rfl, if_pos (by omega), ht]
  have e : (tst .gt x y = true) = (y < x) := by simp [tst]
  simp only [e]
  rfl
theorem R_if_le {d k pc pc' : Nat} {ls st : List MV} {h : MH} {x q : Int} {t : Nat} (hf : fetch k pc = some (.ifCond .le q, 3)) (ht : (pc : Int) + q = (t : Int)) (hp : pc + 3 = pc') : Run d k pc ls (.inl x :: st) h = if x ≤ 0 then Run d k t ls st h else Run d k pc' ls st h := by
  subst hp
  rw [Run_def]
  unfold stp
  rw [hf]
  dsimp only
  rw [if_pos rfl, if_pos (by omega), ht]
  have e : (tst .le x 0 = true) = (x ≤ 0) := by simp [tst]
  simp only [e]
  rfl
theorem R_icmp_le {d k pc pc' : Nat} {ls st : List MV} {h : MH} {x y q : Int} {t : Nat} (hf : fetch k pc = some (.if_icmp .le q, 3)) (ht : (pc : Int) + q = (t : Int)) (hp : pc + 3 = pc') : Run d k pc ls (.inl y :: .inl x :: st) h = if x ≤ y then Run d k t ls st h else Run d k pc' ls st h := by
  subst hp
  rw [Run_def]
  unfold stp
  rw [hf]
  dsimp only
  rw [if_pos rfl, if_pos (by omega), ht]
  have e : (tst .le x y = true) = (x ≤ y) := by simp [tst]
  simp only [e]
  rfl
theorem R_tsw {d k pc : Nat} {ls st : List MV} {h : MH} {D lo hi x q : Int} {os : Array Int} {len t : Nat} (hf : fetch k pc = some (.tableswitch D lo hi os, len)) (h1 : ¬ (x < lo ∨ hi < x)) (ho : os[(x - lo).toNat]? = some q) (ht : (pc : Int) + q = (t : Int)) : Run d k pc ls (.inl x :: st) h = Run d k t ls st h := by
  rw [Run_def]
  unfold stp
  rw [hf]
  dsimp only
  rw [if_neg h1, ho]
  dsimp only
  rw [if_pos (by omega), ht]
  rfl
theorem R_tswD {d k pc : Nat} {ls st : List MV} {h : MH} {D lo hi x : Int} {os : Array Int} {len t : Nat} (hf : fetch k pc = some (.tableswitch D lo hi os, len)) (h1 : x < lo ∨ hi < x) (ht : (pc : Int) + D = (t : Int)) : Run d k pc ls (.inl x :: st) h = Run d k t ls st h := by
  rw [Run_def]
  unfold stp
  rw [hf]
  dsimp only
  rw [if_pos h1, if_pos (by omega), ht]
  rfl
theorem R_ldc {d k pc pc' : Nat} {ls st : List MV} {h : MH} {i q : Nat} {v : Int} (hf : fetch k pc = some (.ldc i, 2)) (ho : mO k = q) (hc : cl_ q i = some v) (hp : pc + 2 = pc') : Run d k pc ls st h = Run d k pc' ls (.inl v :: st) h := by
  subst hp
  rw [Run_def]
  unfold stp
  rw [hf]
  try dsimp only
  rw [if_pos rfl, ho, hc]
  all_goals rfl
theorem R_ldcS {d k pc pc' : Nat} {ls st : List MV} {h : MH} {i q a : Nat} (hf : fetch k pc = some (.ldc i, 2)) (ho : mO k = q) (hc : cl_ q i = none) (hr : rl q i = some a) (hp : pc + 2 = pc') : Run d k pc ls st h = Run d k pc' ls ((.inr (.inr (.inl a))) :: st) h := by
  subst hp
  rw [Run_def]
  unfold stp
  rw [hf]
  try dsimp only
  rw [if_pos rfl, ho, hc]
  try dsimp only
  rw [hr]
  all_goals rfl
theorem R_ldc_wS {d k pc pc' : Nat} {ls st : List MV} {h : MH} {i q a : Nat} (hf : fetch k pc = some (.ldc_w i, 3)) (ho : mO k = q) (hc : cl_ q i = none) (hr : rl q i = some a) (hp : pc + 3 = pc') : Run d k pc ls st h = Run d k pc' ls ((.inr (.inr (.inl a))) :: st) h := by
  subst hp
  rw [Run_def]
  unfold stp
  rw [hf]
  try dsimp only
  rw [if_pos rfl, ho, hc]
  try dsimp only
  rw [hr]
  all_goals rfl
theorem R_ldc_w {d k pc pc' : Nat} {ls st : List MV} {h : MH} {i q : Nat} {v : Int} (hf : fetch k pc = some (.ldc_w i, 3)) (ho : mO k = q) (hc : cl_ q i = some v) (hp : pc + 3 = pc') : Run d k pc ls st h = Run d k pc' ls (.inl v :: st) h := by
  subst hp
  rw [Run_def]
  unfold stp
  rw [hf]
  try dsimp only
  rw [if_pos rfl, ho, hc]
  all_goals rfl
theorem R_ldc2_w {d k pc pc' : Nat} {ls st : List MV} {h : MH} {i q : Nat} {v : Int} (hf : fetch k pc = some (.ldc2_w i, 3)) (ho : mO k = q) (hc : ll q i = some v) (hp : pc + 3 = pc') : Run d k pc ls st h = Run d k pc' ls (.inr (.inl v) :: st) h := by
  subst hp
  rw [Run_def]
  unfold stp
  rw [hf]
  try dsimp only
  rw [if_pos rfl, ho, hc]
  all_goals rfl
theorem R_getsI {d k pc pc' : Nat} {ls st : List MV} {h : MH} {i q v : Nat} {u : Int} (hf : fetch k pc = some (.getstatic i, 3)) (ho : mO k = q) (hc : gl q i = some (0, v)) (hu : (v : Int) = u) (hp : pc + 3 = pc') : Run d k pc ls st h = Run d k pc' ls (.inl u :: st) h := by
  subst hp
  rw [Run_def]
  unfold stp
  rw [hf]
  subst hu
  try dsimp only
  rw [if_pos rfl, ho, hc]
  all_goals rfl
theorem R_getsR {d k pc pc' : Nat} {ls st : List MV} {h : MH} {i q a : Nat} (hf : fetch k pc = some (.getstatic i, 3)) (ho : mO k = q) (hc : gl q i = some (1, a)) (hp : pc + 3 = pc') : Run d k pc ls st h = Run d k pc' ls ((.inr (.inr (.inl a))) :: st) h := by
  subst hp
  rw [Run_def]
  unfold stp
  rw [hf]
  try dsimp only
  rw [if_pos rfl, ho, hc]
  all_goals rfl
theorem R_getI {d k pc pc' : Nat} {ls st : List MV} {h : MH} {i q a c j : Nat} (hf : fetch k pc = some (.getfield i, 3)) (ho : mO k = q) (hc : fl q i = some (c, j)) (hk : (mk a).1 = c) (hq : ft c j = 0) (hp : pc + 3 = pc') : Run d k pc ls ((.inr (.inr (.inl a))) :: st) h = Run d k pc' ls (.inl (h a j) :: st) h := by
  subst hp
  rw [Run_def]
  unfold stp
  rw [hf]
  try dsimp only
  rw [if_pos rfl, ho, hc]
  try dsimp only
  rw [if_pos hk, hq]
  all_goals rfl
theorem R_getZ {d k pc pc' : Nat} {ls st : List MV} {h : MH} {i q a c j : Nat} (hf : fetch k pc = some (.getfield i, 3)) (ho : mO k = q) (hc : fl q i = some (c, j)) (hk : (mk a).1 = c) (hq : ft c j = 5) (hp : pc + 3 = pc') : Run d k pc ls ((.inr (.inr (.inl a))) :: st) h = Run d k pc' ls (.inl (h a j) :: st) h := by
  subst hp
  rw [Run_def]
  unfold stp
  rw [hf]
  try dsimp only
  rw [if_pos rfl, ho, hc]
  try dsimp only
  rw [if_pos hk, hq]
  all_goals rfl
theorem R_getL {d k pc pc' : Nat} {ls st : List MV} {h : MH} {i q a c j : Nat} (hf : fetch k pc = some (.getfield i, 3)) (ho : mO k = q) (hc : fl q i = some (c, j)) (hk : (mk a).1 = c) (hq : ft c j = 1) (hp : pc + 3 = pc') : Run d k pc ls ((.inr (.inr (.inl a))) :: st) h = Run d k pc' ls (.inr (.inl (h a j)) :: st) h := by
  subst hp
  rw [Run_def]
  unfold stp
  rw [hf]
  try dsimp only
  rw [if_pos rfl, ho, hc]
  try dsimp only
  rw [if_pos hk, hq]
  all_goals rfl
theorem R_getC {d k pc pc' : Nat} {ls st : List MV} {h : MH} {i q a c j : Nat} (hf : fetch k pc = some (.getfield i, 3)) (ho : mO k = q) (hc : fl q i = some (c, j)) (hk : (mk a).1 = c) (hq : ft c j = 4) (hp : pc + 3 = pc') : Run d k pc ls ((.inr (.inr (.inl a))) :: st) h = Run d k pc' ls (.inl 0 :: st) h := by
  subst hp
  rw [Run_def]
  unfold stp
  rw [hf]
  try dsimp only
  rw [if_pos rfl, ho, hc]
  try dsimp only
  rw [if_pos hk, hq]
  all_goals rfl
theorem R_getR {d k pc pc' : Nat} {ls st : List MV} {h : MH} {i q a c j : Nat} {b : Nat} (hf : fetch k pc = some (.getfield i, 3)) (ho : mO k = q) (hc : fl q i = some (c, j)) (hk : (mk a).1 = c) (hq : ft c j = 2) (hb : mr a j = b) (hp : pc + 3 = pc') : Run d k pc ls ((.inr (.inr (.inl a))) :: st) h = Run d k pc' ls ((.inr (.inr (.inl b))) :: st) h := by
  subst hp
  rw [Run_def]
  unfold stp
  rw [hf]
  subst hb
  try dsimp only
  rw [if_pos rfl, ho, hc]
  try dsimp only
  rw [if_pos hk, hq]
  all_goals rfl
theorem R_getM {d k pc pc' : Nat} {ls st : List MV} {h : MH} {i q a c j : Nat} (hf : fetch k pc = some (.getfield i, 3)) (ho : mO k = q) (hc : fl q i = some (c, j)) (hk : (mk a).1 = c) (hq : ft c j = 3) (hp : pc + 3 = pc') : Run d k pc ls ((.inr (.inr (.inl a))) :: st) h = Run d k pc' ls ((.inr (.inr (.inl (h a j).toNat))) :: st) h := by
  subst hp
  rw [Run_def]
  unfold stp
  rw [hf]
  try dsimp only
  rw [if_pos rfl, ho, hc]
  try dsimp only
  rw [if_pos hk, hq]
  all_goals rfl
theorem R_getMc {d k pc pc' : Nat} {ls st : List MV} {h : MH} {i q a c j b : Nat} {u : Int} (hf : fetch k pc = some (.getfield i, 3)) (ho : mO k = q) (hc : fl q i = some (c, j)) (hk : (mk a).1 = c) (hq : ft c j = 3) (hu : h a j = u) (hb : u.toNat = b) (hp : pc + 3 = pc') : Run d k pc ls ((.inr (.inr (.inl a))) :: st) h = Run d k pc' ls ((.inr (.inr (.inl b))) :: st) h := by
  subst hp
  rw [Run_def]
  unfold stp
  rw [hf]
  subst hb
  subst hu
  try dsimp only
  rw [if_pos rfl, ho, hc]
  try dsimp only
  rw [if_pos hk, hq]
  all_goals rfl
theorem R_putI {d k pc pc' : Nat} {ls st : List MV} {h : MH} {i q a c j : Nat} {v : Int} (hf : fetch k pc = some (.putfield i, 3)) (ho : mO k = q) (hc : fl q i = some (c, j)) (hk : (mk a).1 = c) (hq : ft c j = 0) (hp : pc + 3 = pc') : Run d k pc ls (.inl v :: (.inr (.inr (.inl a))) :: st) h = Run d k pc' ls st (up h a j v) := by
  subst hp
  rw [Run_def]
  unfold stp
  rw [hf]
  try dsimp only
  rw [if_pos rfl, ho, hc]
  try dsimp only
  rw [if_pos hk, hq]
  all_goals rfl
theorem R_putZ {d k pc pc' : Nat} {ls st : List MV} {h : MH} {i q a c j : Nat} {v : Int} (hf : fetch k pc = some (.putfield i, 3)) (ho : mO k = q) (hc : fl q i = some (c, j)) (hk : (mk a).1 = c) (hq : ft c j = 5) (h1 : is01 v = true) (hp : pc + 3 = pc') : Run d k pc ls (.inl v :: (.inr (.inr (.inl a))) :: st) h = Run d k pc' ls st (up h a j v) := by
  subst hp
  rw [Run_def]
  unfold stp
  rw [hf]
  try dsimp only
  rw [if_pos rfl, ho, hc]
  try dsimp only
  rw [if_pos hk, hq]
  show (if is01 v = true then Run d k (pc + 3) ls st (up h a j v) else none) = _
  rw [if_pos h1]
theorem R_putL {d k pc pc' : Nat} {ls st : List MV} {h : MH} {i q a c j : Nat} {v : Int} (hf : fetch k pc = some (.putfield i, 3)) (ho : mO k = q) (hc : fl q i = some (c, j)) (hk : (mk a).1 = c) (hq : ft c j = 1) (hp : pc + 3 = pc') : Run d k pc ls (.inr (.inl v) :: (.inr (.inr (.inl a))) :: st) h = Run d k pc' ls st (up h a j v) := by
  subst hp
  rw [Run_def]
  unfold stp
  rw [hf]
  try dsimp only
  rw [if_pos rfl, ho, hc]
  try dsimp only
  rw [if_pos ⟨hk, hq⟩]
theorem R_putR {d k pc pc' : Nat} {ls st : List MV} {h : MH} {i q a c j b : Nat} (hf : fetch k pc = some (.putfield i, 3)) (ho : mO k = q) (hc : fl q i = some (c, j)) (hk : (mk a).1 = c) (hq : ft c j = 3) (hb : (mk b).1 = 101) (hp : pc + 3 = pc') : Run d k pc ls ((.inr (.inr (.inl b))) :: (.inr (.inr (.inl a))) :: st) h = Run d k pc' ls st (up h a j (b : Int)) := by
  subst hp
  rw [Run_def]
  unfold stp
  rw [hf]
  try dsimp only
  rw [if_pos rfl, ho, hc]
  try dsimp only
  rw [if_pos ⟨hk, hq, hb⟩]
theorem R_len100 {d k pc pc' : Nat} {ls st : List MV} {h : MH} {a n : Nat} {v : Int} (hf : fetch k pc = some (.arraylength, 1)) (hk : mk a = (100, n)) (hv : (n : Int) = v) (hp : pc + 1 = pc') : Run d k pc ls ((.inr (.inr (.inl a))) :: st) h = Run d k pc' ls (.inl v :: st) h := by
  subst hp
  rw [Run_def]
  unfold stp
  rw [hf]
  subst hv
  try dsimp only
  rw [if_pos rfl, hk]
  all_goals rfl
theorem R_len101 {d k pc pc' : Nat} {ls st : List MV} {h : MH} {a n : Nat} {v : Int} (hf : fetch k pc = some (.arraylength, 1)) (hk : mk a = (101, n)) (hv : (n : Int) = v) (hp : pc + 1 = pc') : Run d k pc ls ((.inr (.inr (.inl a))) :: st) h = Run d k pc' ls (.inl v :: st) h := by
  subst hp
  rw [Run_def]
  unfold stp
  rw [hf]
  subst hv
  try dsimp only
  rw [if_pos rfl, hk]
  all_goals rfl
theorem R_len111 {d k pc pc' : Nat} {ls st : List MV} {h : MH} {a n : Nat} {v : Int} (hf : fetch k pc = some (.arraylength, 1)) (hk : mk a = (111, n)) (hv : (n : Int) = v) (hp : pc + 1 = pc') : Run d k pc ls ((.inr (.inr (.inl a))) :: st) h = Run d k pc' ls (.inl v :: st) h := by
  subst hp
  rw [Run_def]
  unfold stp
  rw [hf]
  subst hv
  try dsimp only
  rw [if_pos rfl, hk]
  all_goals rfl
theorem R_len112 {d k pc pc' : Nat} {ls st : List MV} {h : MH} {a n : Nat} (hf : fetch k pc = some (.arraylength, 1)) (hk : mk a = (112, n)) (hp : pc + 1 = pc') : Run d k pc ls ((.inr (.inr (.inl a))) :: st) h = Run d k pc' ls (.inl (slen h : Int) :: st) h := by
  subst hp
  rw [Run_def]
  unfold stp
  rw [hf]
  try dsimp only
  rw [if_pos rfl, hk]
  all_goals rfl
theorem R_iald {d k pc pc' : Nat} {ls st : List MV} {h : MH} {a n : Nat} {i : Int} (hf : fetch k pc = some (.iaload, 1)) (hk : mk a = (100, n)) (hp : pc + 1 = pc') : Run d k pc ls (.inl i :: (.inr (.inr (.inl a))) :: st) h = if 0 ≤ i ∧ i < n then Run d k pc' ls (.inl (h a i.toNat) :: st) h else none := by
  subst hp
  rw [Run_def]
  unfold stp
  rw [hf]
  dsimp only
  rw [if_pos rfl, hk]
  dsimp only
  simp only [inb, decide_eq_true_eq]
theorem R_ialdc {d k pc pc' : Nat} {ls st : List MV} {h : MH} {a n j : Nat} {i : Int} (hf : fetch k pc = some (.iaload, 1)) (hk : mk a = (100, n)) (hi : 0 ≤ i ∧ i < n) (hj : i.toNat = j) (hp : pc + 1 = pc') : Run d k pc ls (.inl i :: (.inr (.inr (.inl a))) :: st) h = Run d k pc' ls (.inl (h a j) :: st) h := by
  subst hj
  rw [R_iald hf hk hp, if_pos hi]
theorem R_iald110 {d k pc pc' : Nat} {ls st : List MV} {h : MH} {a n : Nat} {i : Int} (hf : fetch k pc = some (.iaload, 1)) (hk : mk a = (110, n)) (hp : pc + 1 = pc') : Run d k pc ls (.inl i :: (.inr (.inr (.inl a))) :: st) h = if 0 ≤ i ∧ i < n then Run d k pc' ls (.inl (ro a i.toNat) :: st) h else none := by
  subst hp
  rw [Run_def]
  unfold stp
  rw [hf]
  dsimp only
  rw [if_pos rfl, hk]
  dsimp only
  simp only [inb, decide_eq_true_eq]
theorem R_iald110c {d k pc pc' : Nat} {ls st : List MV} {h : MH} {a n j : Nat} {i : Int} (hf : fetch k pc = some (.iaload, 1)) (hk : mk a = (110, n)) (hi : 0 ≤ i ∧ i < n) (hj : i.toNat = j) (hp : pc + 1 = pc') : Run d k pc ls (.inl i :: (.inr (.inr (.inl a))) :: st) h = Run d k pc' ls (.inl (ro a j) :: st) h := by
  subst hj
  rw [R_iald110 hf hk hp, if_pos hi]
theorem R_bald {d k pc pc' : Nat} {ls st : List MV} {h : MH} {a n : Nat} {i : Int} (hf : fetch k pc = some (.baload, 1)) (hk : mk a = (101, n)) (hp : pc + 1 = pc') : Run d k pc ls (.inl i :: (.inr (.inr (.inl a))) :: st) h = if 0 ≤ i ∧ i < n then Run d k pc' ls (.inl (h a i.toNat) :: st) h else none := by
  subst hp
  rw [Run_def]
  unfold stp
  rw [hf]
  dsimp only
  rw [if_pos rfl, hk]
  dsimp only
  simp only [inb, decide_eq_true_eq]
theorem R_baldc {d k pc pc' : Nat} {ls st : List MV} {h : MH} {a n j : Nat} {i : Int} (hf : fetch k pc = some (.baload, 1)) (hk : mk a = (101, n)) (hi : 0 ≤ i ∧ i < n) (hj : i.toNat = j) (hp : pc + 1 = pc') : Run d k pc ls (.inl i :: (.inr (.inr (.inl a))) :: st) h = Run d k pc' ls (.inl (h a j) :: st) h := by
  subst hj
  rw [R_bald hf hk hp, if_pos hi]
theorem R_zald {d k pc pc' : Nat} {ls st : List MV} {h : MH} {a n : Nat} {i : Int} (hf : fetch k pc = some (.baload, 1)) (hk : mk a = (102, n)) (hp : pc + 1 = pc') : Run d k pc ls (.inl i :: (.inr (.inr (.inl a))) :: st) h = if 0 ≤ i ∧ i < n then Run d k pc' ls (.inl (h a i.toNat) :: st) h else none := by
  subst hp
  rw [Run_def]
  unfold stp
  rw [hf]
  dsimp only
  rw [if_pos rfl, hk]
  dsimp only
  simp only [inb, decide_eq_true_eq]
theorem R_zaldc {d k pc pc' : Nat} {ls st : List MV} {h : MH} {a n j : Nat} {i : Int} (hf : fetch k pc = some (.baload, 1)) (hk : mk a = (102, n)) (hi : 0 ≤ i ∧ i < n) (hj : i.toNat = j) (hp : pc + 1 = pc') : Run d k pc ls (.inl i :: (.inr (.inr (.inl a))) :: st) h = Run d k pc' ls (.inl (h a j) :: st) h := by
  subst hj
  rw [R_zald hf hk hp, if_pos hi]
theorem R_bald111 {d k pc pc' : Nat} {ls st : List MV} {h : MH} {a n : Nat} {i : Int} (hf : fetch k pc = some (.baload, 1)) (hk : mk a = (111, n)) (hp : pc + 1 = pc') : Run d k pc ls (.inl i :: (.inr (.inr (.inl a))) :: st) h = if 0 ≤ i ∧ i < n then Run d k pc' ls (.inl (ro a i.toNat) :: st) h else none := by
  subst hp
  rw [Run_def]
  unfold stp
  rw [hf]
  dsimp only
  rw [if_pos rfl, hk]
  dsimp only
  simp only [inb, decide_eq_true_eq]
theorem R_bald111c {d k pc pc' : Nat} {ls st : List MV} {h : MH} {a n j : Nat} {i : Int} (hf : fetch k pc = some (.baload, 1)) (hk : mk a = (111, n)) (hi : 0 ≤ i ∧ i < n) (hj : i.toNat = j) (hp : pc + 1 = pc') : Run d k pc ls (.inl i :: (.inr (.inr (.inl a))) :: st) h = Run d k pc' ls (.inl (ro a j) :: st) h := by
  subst hj
  rw [R_bald111 hf hk hp, if_pos hi]
theorem R_iald112 {d k pc pc' : Nat} {ls st : List MV} {h : MH} {a n : Nat} {i : Int} (hf : fetch k pc = some (.iaload, 1)) (hk : mk a = (112, n)) (hi : 0 ≤ i ∧ i < slen h) (hp : pc + 1 = pc') : Run d k pc ls (.inl i :: (.inr (.inr (.inl a))) :: st) h = Run d k pc' ls (.inl (h a i.toNat) :: st) h := by
  subst hp
  rw [Run_def]
  unfold stp
  rw [hf]
  dsimp only
  rw [if_pos rfl, hk]
  show (if inb i (slen h) = true then Run d k (pc + 1) ls (.inl (h a i.toNat) :: st) h else none) = _
  rw [if_pos (by simpa [inb] using hi)]
theorem R_lald {d k pc pc' : Nat} {ls st : List MV} {h : MH} {a n : Nat} {i : Int} (hf : fetch k pc = some (.laload, 1)) (hk : mk a = (103, n)) (hi : 0 ≤ i ∧ i < n) (hp : pc + 1 = pc') : Run d k pc ls (.inl i :: (.inr (.inr (.inl a))) :: st) h = Run d k pc' ls (.inr (.inl (h a i.toNat)) :: st) h := by
  subst hp
  rw [Run_def]
  unfold stp
  rw [hf]
  dsimp only
  rw [if_pos rfl, hk]
  dsimp only
  rw [if_pos ⟨rfl, by simpa [inb] using hi⟩]
theorem R_aald {d k pc pc' : Nat} {ls st : List MV} {h : MH} {a n b : Nat} {i : Int} (hf : fetch k pc = some (.aaload, 1)) (hk : mk a = (104, n)) (hb : mr a 0 = b) (hp : pc + 1 = pc') : Run d k pc ls (.inl i :: (.inr (.inr (.inl a))) :: st) h = if 0 ≤ i ∧ i < n then Run d k pc' ls ((.inr (.inr (.inl (b + i.toNat)))) :: st) h else none := by
  subst hb
  subst hp
  rw [Run_def]
  unfold stp
  rw [hf]
  dsimp only
  rw [if_pos rfl, hk]
  dsimp only
  simp only [inb, decide_eq_true_eq, true_and]
theorem R_iast {d k pc pc' : Nat} {ls st : List MV} {h : MH} {a n : Nat} {i v : Int} (hf : fetch k pc = some (.iastore, 1)) (hk : mk a = (100, n)) (hp : pc + 1 = pc') : Run d k pc ls (.inl v :: .inl i :: (.inr (.inr (.inl a))) :: st) h = if 0 ≤ i ∧ i < n then Run d k pc' ls st (up h a i.toNat v) else none := by
  subst hp
  rw [Run_def]
  unfold stp
  rw [hf]
  dsimp only
  rw [if_pos rfl, hk]
  dsimp only
  simp only [inb, decide_eq_true_eq, true_and]
theorem R_iastc {d k pc pc' : Nat} {ls st : List MV} {h : MH} {a n j : Nat} {i v : Int} (hf : fetch k pc = some (.iastore, 1)) (hk : mk a = (100, n)) (hi : 0 ≤ i ∧ i < n) (hj : i.toNat = j) (hp : pc + 1 = pc') : Run d k pc ls (.inl v :: .inl i :: (.inr (.inr (.inl a))) :: st) h = Run d k pc' ls st (up h a j v) := by
  subst hj
  rw [R_iast hf hk hp, if_pos hi]
theorem R_bast {d k pc pc' : Nat} {ls st : List MV} {h : MH} {a n : Nat} {i v : Int} (hf : fetch k pc = some (.bastore, 1)) (hk : mk a = (101, n)) (hp : pc + 1 = pc') : Run d k pc ls (.inl v :: .inl i :: (.inr (.inr (.inl a))) :: st) h = if 0 ≤ i ∧ i < n then Run d k pc' ls st (up h a i.toNat (toB v)) else none := by
  subst hp
  rw [Run_def]
  unfold stp
  rw [hf]
  dsimp only
  rw [if_pos rfl, hk]
  dsimp only
  simp only [inb, decide_eq_true_eq]
theorem R_zast {d k pc pc' : Nat} {ls st : List MV} {h : MH} {a n : Nat} {i v : Int} (hf : fetch k pc = some (.bastore, 1)) (hk : mk a = (102, n)) (hp : pc + 1 = pc') : Run d k pc ls (.inl v :: .inl i :: (.inr (.inr (.inl a))) :: st) h = if (0 ≤ i ∧ i < n) ∧ (v = 0 ∨ v = 1) then Run d k pc' ls st (up h a i.toNat v) else none := by
  subst hp
  rw [Run_def]
  unfold stp
  rw [hf]
  dsimp only
  rw [if_pos rfl, hk]
  dsimp only
  simp only [inb, is01, decide_eq_true_eq]
/-- a call's answer: an int, a long, nothing -/
def cI (r : Option (Option MV × MH)) (f : Int → MH → Option (Option MV × MH)) : Option (Option MV × MH) := match r with
  | some (some (.inl x), h) => f x h
  | _ => none
def cJ (r : Option (Option MV × MH)) (f : Int → MH → Option (Option MV × MH)) : Option (Option MV × MH) := match r with
  | some (some (.inr (.inl x)), h) => f x h
  | _ => none
def cV (r : Option (Option MV × MH)) (f : MH → Option (Option MV × MH)) : Option (Option MV × MH) := match r with
  | some (none, h) => f h
  | _ => none
theorem cI_some (x : Int) (h : MH) (f : Int → MH → Option (Option MV × MH)) : cI (some (some (.inl x), h)) f = f x h := rfl
theorem cJ_some (x : Int) (h : MH) (f : Int → MH → Option (Option MV × MH)) : cJ (some (some (.inr (.inl x)), h)) f = f x h := rfl
theorem cV_some (h : MH) (f : MH → Option (Option MV × MH)) : cV (some (none, h)) f = f h := rfl
theorem cI_ite {c : Prop} [Decidable c] (a b : Option (Option MV × MH)) (f : Int → MH → Option (Option MV × MH)) : cI (if c then a else b) f = if c then cI a f else cI b f := by split <;> rfl
theorem cJ_ite {c : Prop} [Decidable c] (a b : Option (Option MV × MH)) (f : Int → MH → Option (Option MV × MH)) : cJ (if c then a else b) f = if c then cJ a f else cJ b f := by split <;> rfl
theorem cV_ite {c : Prop} [Decidable c] (a b : Option (Option MV × MH)) (f : MH → Option (Option MV × MH)) : cV (if c then a else b) f = if c then cV a f else cV b f := by split <;> rfl
def isI (t : Option FieldType) : Bool := match t with
  | some .long => false
  | none => false
  | _ => true
theorem Cll_I {d k : Nat} {ls : List MV} {h : MH} {k2 : Nat} {vs : List MV} {pc2 : Nat} {rest es : List MV} (hr : isI (mR k2) = true) (he : entry k2 vs = es) : Cll (d + 1) k ls h k2 vs pc2 rest = cI (Run d k2 0 es [] h) (fun x h2 => Run (d + 1) k pc2 ls (.inl x :: rest) h2) := by
  subst he
  unfold Cll
  dsimp only
  cases e : Run d k2 0 (entry k2 vs) [] h with
  | none => rfl
  | some r =>
    obtain ⟨v, h2⟩ := r
    rcases Run_ret e with ⟨x, q, -⟩ | ⟨q, -⟩ | ⟨q, -⟩
    · cases q; rfl
    · rw [q] at hr; cases hr
    · rw [q] at hr; cases hr
theorem Cll_J {d k : Nat} {ls : List MV} {h : MH} {k2 : Nat} {vs : List MV} {pc2 : Nat} {rest es : List MV} (hr : mR k2 = some .long) (he : entry k2 vs = es) : Cll (d + 1) k ls h k2 vs pc2 rest = cJ (Run d k2 0 es [] h) (fun x h2 => Run (d + 1) k pc2 ls (.inr (.inl x) :: rest) h2) := by
  subst he
  unfold Cll
  dsimp only
  cases e : Run d k2 0 (entry k2 vs) [] h with
  | none => rfl
  | some r =>
    obtain ⟨v, h2⟩ := r
    rcases Run_ret e with ⟨x, q, q2⟩ | ⟨-, x, q⟩ | ⟨q, -⟩
    · rw [hr] at q2; cases q2
    · cases q; rfl
    · rw [q] at hr; cases hr
theorem Cll_V {d k : Nat} {ls : List MV} {h : MH} {k2 : Nat} {vs : List MV} {pc2 : Nat} {rest es : List MV} (hr : mR k2 = none) (he : entry k2 vs = es) : Cll (d + 1) k ls h k2 vs pc2 rest = cV (Run d k2 0 es [] h) (fun h2 => Run (d + 1) k pc2 ls rest h2) := by
  subst he
  unfold Cll
  dsimp only
  cases e : Run d k2 0 (entry k2 vs) [] h with
  | none => rfl
  | some r =>
    obtain ⟨v, h2⟩ := r
    rcases Run_ret e with ⟨x, q, q2⟩ | ⟨q, -⟩ | ⟨-, q⟩
    · rw [hr] at q2; cases q2
    · rw [q] at hr; cases hr
    · cases q; rfl
theorem ent_eq9 {k L : Nat} {vs es : List MV} (hL : mL k = L) (he : ent vs ++ List.replicate (L - (ent vs).length) vU = es) : entry k vs = es := by
  subst hL
  exact he
theorem R_callI {d k pc pc' : Nat} {ls st : List MV} {h : MH} {i q k2 n L : Nat} {vs rest es : List MV} (hf : fetch k pc = some (.invokestatic i, 3)) (ho : mO k = q) (hs : sl q i = some (k2, n)) (hr : isI (mR k2) = true) (hL : mL k2 = L) (hn : n ≤ st.length) (hv : (st.take n).reverse = vs) (hd : st.drop n = rest) (hc : cats rest ≤ 8) (hl : (ent vs).length ≤ L) (he : ent vs ++ List.replicate (L - (ent vs).length) vU = es) (hp : pc + 3 = pc') : Run (d + 1) k pc ls st h = cI (Run d k2 0 es [] h) (fun x h2 => Run (d + 1) k pc' ls (.inl x :: rest) h2) := by
  subst hp
  rw [← Cll_I hr (ent_eq9 hL he), Run_def]
  unfold stp
  rw [hf]
  dsimp only
  rw [if_pos rfl, ho, hs]
  dsimp only
  rw [hv, hd, if_pos ⟨hn, hc, by rw [hL]; exact hl⟩]
theorem R_vcallI {d k pc pc' : Nat} {ls st : List MV} {h : MH} {a c : Nat} {i q k2 n L : Nat} {vs rest es : List MV} (hf : fetch k pc = some (.invokevirtual i, 3)) (ho : mO k = q) (hs : vl q i = some (k2, n)) (hr : isI (mR k2) = true) (hL : mL k2 = L) (hn : n ≤ st.length) (hv : (st.take n).reverse = vs) (hd : st.drop n = (.inr (.inr (.inl a))) :: rest) (hc : cats rest ≤ 8) (hl : (ent ((.inr (.inr (.inl a))) :: vs)).length ≤ L) (he : ent ((.inr (.inr (.inl a))) :: vs) ++ List.replicate (L - (ent ((.inr (.inr (.inl a))) :: vs)).length) vU = es) (hp : pc + 3 = pc') (hk : (mk a).1 = c) (hm : mO k2 = c) : Run (d + 1) k pc ls st h = cI (Run d k2 0 es [] h) (fun x h2 => Run (d + 1) k pc' ls (.inl x :: rest) h2) := by
  subst hp
  rw [← Cll_I hr (ent_eq9 hL he), Run_def]
  unfold stp
  rw [hf]
  dsimp only
  rw [if_pos rfl, ho, hs]
  dsimp only
  rw [hd]
  dsimp only
  rw [hv, if_pos ⟨hn, by rw [hk, hm], hc, by rw [hL]; exact hl⟩]
theorem R_callJ {d k pc pc' : Nat} {ls st : List MV} {h : MH} {i q k2 n L : Nat} {vs rest es : List MV} (hf : fetch k pc = some (.invokestatic i, 3)) (ho : mO k = q) (hs : sl q i = some (k2, n)) (hr : mR k2 = some .long) (hL : mL k2 = L) (hn : n ≤ st.length) (hv : (st.take n).reverse = vs) (hd : st.drop n = rest) (hc : cats rest ≤ 8) (hl : (ent vs).length ≤ L) (he : ent vs ++ List.replicate (L - (ent vs).length) vU = es) (hp : pc + 3 = pc') : Run (d + 1) k pc ls st h = cJ (Run d k2 0 es [] h) (fun x h2 => Run (d + 1) k pc' ls (.inr (.inl x) :: rest) h2) := by
  subst hp
  rw [← Cll_J hr (ent_eq9 hL he), Run_def]
  unfold stp
  rw [hf]
  dsimp only
  rw [if_pos rfl, ho, hs]
  dsimp only
  rw [hv, hd, if_pos ⟨hn, hc, by rw [hL]; exact hl⟩]
theorem R_vcallJ {d k pc pc' : Nat} {ls st : List MV} {h : MH} {a c : Nat} {i q k2 n L : Nat} {vs rest es : List MV} (hf : fetch k pc = some (.invokevirtual i, 3)) (ho : mO k = q) (hs : vl q i = some (k2, n)) (hr : mR k2 = some .long) (hL : mL k2 = L) (hn : n ≤ st.length) (hv : (st.take n).reverse = vs) (hd : st.drop n = (.inr (.inr (.inl a))) :: rest) (hc : cats rest ≤ 8) (hl : (ent ((.inr (.inr (.inl a))) :: vs)).length ≤ L) (he : ent ((.inr (.inr (.inl a))) :: vs) ++ List.replicate (L - (ent ((.inr (.inr (.inl a))) :: vs)).length) vU = es) (hp : pc + 3 = pc') (hk : (mk a).1 = c) (hm : mO k2 = c) : Run (d + 1) k pc ls st h = cJ (Run d k2 0 es [] h) (fun x h2 => Run (d + 1) k pc' ls (.inr (.inl x) :: rest) h2) := by
  subst hp
  rw [← Cll_J hr (ent_eq9 hL he), Run_def]
  unfold stp
  rw [hf]
  dsimp only
  rw [if_pos rfl, ho, hs]
  dsimp only
  rw [hd]
  dsimp only
  rw [hv, if_pos ⟨hn, by rw [hk, hm], hc, by rw [hL]; exact hl⟩]
theorem R_callV {d k pc pc' : Nat} {ls st : List MV} {h : MH} {i q k2 n L : Nat} {vs rest es : List MV} (hf : fetch k pc = some (.invokestatic i, 3)) (ho : mO k = q) (hs : sl q i = some (k2, n)) (hr : mR k2 = none) (hL : mL k2 = L) (hn : n ≤ st.length) (hv : (st.take n).reverse = vs) (hd : st.drop n = rest) (hc : cats rest ≤ 8) (hl : (ent vs).length ≤ L) (he : ent vs ++ List.replicate (L - (ent vs).length) vU = es) (hp : pc + 3 = pc') : Run (d + 1) k pc ls st h = cV (Run d k2 0 es [] h) (fun h2 => Run (d + 1) k pc' ls rest h2) := by
  subst hp
  rw [← Cll_V hr (ent_eq9 hL he), Run_def]
  unfold stp
  rw [hf]
  dsimp only
  rw [if_pos rfl, ho, hs]
  dsimp only
  rw [hv, hd, if_pos ⟨hn, hc, by rw [hL]; exact hl⟩]
theorem R_vcallV {d k pc pc' : Nat} {ls st : List MV} {h : MH} {a c : Nat} {i q k2 n L : Nat} {vs rest es : List MV} (hf : fetch k pc = some (.invokevirtual i, 3)) (ho : mO k = q) (hs : vl q i = some (k2, n)) (hr : mR k2 = none) (hL : mL k2 = L) (hn : n ≤ st.length) (hv : (st.take n).reverse = vs) (hd : st.drop n = (.inr (.inr (.inl a))) :: rest) (hc : cats rest ≤ 8) (hl : (ent ((.inr (.inr (.inl a))) :: vs)).length ≤ L) (he : ent ((.inr (.inr (.inl a))) :: vs) ++ List.replicate (L - (ent ((.inr (.inr (.inl a))) :: vs)).length) vU = es) (hp : pc + 3 = pc') (hk : (mk a).1 = c) (hm : mO k2 = c) : Run (d + 1) k pc ls st h = cV (Run d k2 0 es [] h) (fun h2 => Run (d + 1) k pc' ls rest h2) := by
  subst hp
  rw [← Cll_V hr (ent_eq9 hL he), Run_def]
  unfold stp
  rw [hf]
  dsimp only
  rw [if_pos rfl, ho, hs]
  dsimp only
  rw [hd]
  dsimp only
  rw [hv, if_pos ⟨hn, by rw [hk, hm], hc, by rw [hL]; exact hl⟩]
theorem R_mmax {d k pc pc' : Nat} {ls st : List MV} {h : MH} {i q : Nat} {x y : Int} (hf : fetch k pc = some (.invokestatic i, 3)) (ho : mO k = q) (hs : sl q i = none) (hm : ml q i = some 0) (ha : ¬ (q, i) ∈ aL) (hc : cats st ≤ 8) (hp : pc + 3 = pc') : Run d k pc ls (.inl y :: .inl x :: st) h = Run d k pc' ls (.inl (mx x y) :: st) h := by
  subst hp
  rw [Run_def]
  unfold stp
  rw [hf]
  try dsimp only
  rw [if_pos rfl, ho, hs]
  try dsimp only
  rw [if_neg ha, hm]
  show (if cats st ≤ 8 then Run d k (pc + 3) ls (.inl (mx x y) :: st) h else none) = _
  rw [if_pos hc]
theorem R_mmin {d k pc pc' : Nat} {ls st : List MV} {h : MH} {i q : Nat} {x y : Int} (hf : fetch k pc = some (.invokestatic i, 3)) (ho : mO k = q) (hs : sl q i = none) (hm : ml q i = some 1) (ha : ¬ (q, i) ∈ aL) (hc : cats st ≤ 8) (hp : pc + 3 = pc') : Run d k pc ls (.inl y :: .inl x :: st) h = Run d k pc' ls (.inl (mn x y) :: st) h := by
  subst hp
  rw [Run_def]
  unfold stp
  rw [hf]
  try dsimp only
  rw [if_pos rfl, ho, hs]
  try dsimp only
  rw [if_neg ha, hm]
  show (if cats st ≤ 8 then Run d k (pc + 3) ls (.inl (mn x y) :: st) h else none) = _
  rw [if_pos hc]
theorem R_mabs {d k pc pc' : Nat} {ls st : List MV} {h : MH} {i q : Nat} {x : Int} (hf : fetch k pc = some (.invokestatic i, 3)) (ho : mO k = q) (hs : sl q i = none) (hm : ml q i = some 2) (ha : ¬ (q, i) ∈ aL) (hc : cats st ≤ 8) (hp : pc + 3 = pc') : Run d k pc ls (.inl x :: st) h = Run d k pc' ls (.inl (ab x) :: st) h := by
  subst hp
  rw [Run_def]
  unfold stp
  rw [hf]
  try dsimp only
  rw [if_pos rfl, ho, hs]
  try dsimp only
  rw [if_neg ha, hm]
  show (if cats st ≤ 8 then Run d k (pc + 3) ls (.inl (ab x) :: st) h else none) = _
  rw [if_pos hc]
theorem R_mmaxL {d k pc pc' : Nat} {ls st : List MV} {h : MH} {i q : Nat} {x y : Int} (hf : fetch k pc = some (.invokestatic i, 3)) (ho : mO k = q) (hs : sl q i = none) (hm : ml q i = some 3) (ha : ¬ (q, i) ∈ aL) (hc : cats st ≤ 8) (hp : pc + 3 = pc') : Run d k pc ls (.inr (.inl y) :: .inr (.inl x) :: st) h = Run d k pc' ls (.inr (.inl (mx x y)) :: st) h := by
  subst hp
  rw [Run_def]
  unfold stp
  rw [hf]
  try dsimp only
  rw [if_pos rfl, ho, hs]
  try dsimp only
  rw [if_neg ha, hm]
  show (if cats st ≤ 8 then Run d k (pc + 3) ls (.inr (.inl (mx x y)) :: st) h else none) = _
  rw [if_pos hc]
theorem R_mminL {d k pc pc' : Nat} {ls st : List MV} {h : MH} {i q : Nat} {x y : Int} (hf : fetch k pc = some (.invokestatic i, 3)) (ho : mO k = q) (hs : sl q i = none) (hm : ml q i = some 4) (ha : ¬ (q, i) ∈ aL) (hc : cats st ≤ 8) (hp : pc + 3 = pc') : Run d k pc ls (.inr (.inl y) :: .inr (.inl x) :: st) h = Run d k pc' ls (.inr (.inl (mn x y)) :: st) h := by
  subst hp
  rw [Run_def]
  unfold stp
  rw [hf]
  try dsimp only
  rw [if_pos rfl, ho, hs]
  try dsimp only
  rw [if_neg ha, hm]
  show (if cats st ≤ 8 then Run d k (pc + 3) ls (.inr (.inl (mn x y)) :: st) h else none) = _
  rw [if_pos hc]
theorem R_mabsL {d k pc pc' : Nat} {ls st : List MV} {h : MH} {i q : Nat} {x : Int} (hf : fetch k pc = some (.invokestatic i, 3)) (ho : mO k = q) (hs : sl q i = none) (hm : ml q i = some 5) (ha : ¬ (q, i) ∈ aL) (hc : cats st ≤ 8) (hp : pc + 3 = pc') : Run d k pc ls (.inr (.inl x) :: st) h = Run d k pc' ls (.inr (.inl (abL x)) :: st) h := by
  subst hp
  rw [Run_def]
  unfold stp
  rw [hf]
  try dsimp only
  rw [if_pos rfl, ho, hs]
  try dsimp only
  rw [if_neg ha, hm]
  show (if cats st ≤ 8 then Run d k (pc + 3) ls (.inr (.inl (abL x)) :: st) h else none) = _
  rw [if_pos hc]
theorem R_acpy {d k pc pc' : Nat} {ls st : List MV} {h : MH} {i q s t n0 n1 : Nat} {n dp sp : Int} (hf : fetch k pc = some (.invokestatic i, 3)) (ho : mO k = q) (hs : sl q i = none) (ha : (q, i) ∈ aL) (hks : mk s = (100, n0)) (hkd : mk t = (100, n1)) (hc : cats st ≤ 8) (hp : pc + 3 = pc') : Run d k pc ls (.inl n :: .inl dp :: (.inr (.inr (.inl t))) :: .inl sp :: (.inr (.inr (.inl s))) :: st) h = if 0 ≤ n ∧ 0 ≤ dp ∧ 0 ≤ sp ∧ dp + n ≤ n1 ∧ sp + n ≤ n0 then Run d k pc' ls st (cpy h (h s) t sp.toNat dp.toNat n.toNat) else none := by
  subst hp
  rw [Run_def]
  unfold stp
  rw [hf]
  dsimp only
  rw [if_pos rfl, ho, hs]
  dsimp only
  rw [if_pos ha, hks, hkd]
  dsimp only
  by_cases e : 0 ≤ n ∧ 0 ≤ dp ∧ 0 ≤ sp ∧ dp + n ≤ n1 ∧ sp + n ≤ n0
  · rw [if_pos e, if_pos ⟨e.1, e.2.1, e.2.2.1, rfl, e.2.2.2.1, e.2.2.2.2, hc⟩]
    rfl
  · rw [if_neg e, if_neg (fun z => e ⟨z.1, z.2.1, z.2.2.1, z.2.2.2.2.1, z.2.2.2.2.2.1⟩)]
theorem R_acpyR {d k pc pc' : Nat} {ls st : List MV} {h : MH} {i q s t n0 n1 : Nat} {n dp sp : Int} (hf : fetch k pc = some (.invokestatic i, 3)) (ho : mO k = q) (hs : sl q i = none) (ha : (q, i) ∈ aL) (hks : mk s = (110, n0)) (hkd : mk t = (100, n1)) (hc : cats st ≤ 8) (hp : pc + 3 = pc') : Run d k pc ls (.inl n :: .inl dp :: (.inr (.inr (.inl t))) :: .inl sp :: (.inr (.inr (.inl s))) :: st) h = if 0 ≤ n ∧ 0 ≤ dp ∧ 0 ≤ sp ∧ dp + n ≤ n1 ∧ sp + n ≤ n0 then Run d k pc' ls st (cpy h (ro s) t sp.toNat dp.toNat n.toNat) else none := by
  subst hp
  rw [Run_def]
  unfold stp
  rw [hf]
  dsimp only
  rw [if_pos rfl, ho, hs]
  dsimp only
  rw [if_pos ha, hks, hkd]
  dsimp only
  by_cases e : 0 ≤ n ∧ 0 ≤ dp ∧ 0 ≤ sp ∧ dp + n ≤ n1 ∧ sp + n ≤ n0
  · rw [if_pos e, if_pos ⟨e.1, e.2.1, e.2.2.1, rfl, e.2.2.2.1, e.2.2.2.2, hc⟩]
    rfl
  · rw [if_neg e, if_neg (fun z => e ⟨z.1, z.2.1, z.2.2.1, z.2.2.2.2.1, z.2.2.2.2.2.1⟩)]
theorem R_ireturn {d k pc : Nat} {ls : List MV} {h : MH} {x : Int} (hf : fetch k pc = some (.ireturn, 1)) (hr : okR (mR k) x = true) : Run d k pc ls [.inl x] h = some (some (.inl x), h) := by
  rw [Run_def]
  unfold stp
  rw [hf]
  dsimp only
  rw [if_pos rfl, if_pos hr]
theorem R_ireturn_i {d k pc : Nat} {ls : List MV} {h : MH} {x : Int} (hf : fetch k pc = some (.ireturn, 1)) (hr : mR k = some .int) : Run d k pc ls [.inl x] h = some (some (.inl x), h) := R_ireturn hf (by rw [hr]; rfl)
theorem R_ireturn_z {d k pc : Nat} {ls : List MV} {h : MH} {x : Int} (hf : fetch k pc = some (.ireturn, 1)) (hr : mR k = some .boolean) : Run d k pc ls [.inl x] h = if x = 0 ∨ x = 1 then some (some (.inl x), h) else none := by
  rw [Run_def]
  unfold stp
  rw [hf]
  dsimp only
  rw [if_pos rfl, hr]
  simp only [okR, is01, decide_eq_true_eq]
theorem R_ireturn_c {d k pc : Nat} {ls : List MV} {h : MH} {x : Int} (hf : fetch k pc = some (.ireturn, 1)) (hr : mR k = some .char) : Run d k pc ls [.inl x] h = if 0 ≤ x ∧ x ≤ 65535 then some (some (.inl x), h) else none := by
  rw [Run_def]
  unfold stp
  rw [hf]
  dsimp only
  rw [if_pos rfl, hr]
  simp only [okR, decide_eq_true_eq]
theorem R_ireturn_b {d k pc : Nat} {ls : List MV} {h : MH} {x : Int} (hf : fetch k pc = some (.ireturn, 1)) (hr : mR k = some .byte) : Run d k pc ls [.inl x] h = if -128 ≤ x ∧ x ≤ 127 then some (some (.inl x), h) else none := by
  rw [Run_def]
  unfold stp
  rw [hf]
  dsimp only
  rw [if_pos rfl, hr]
  simp only [okR, decide_eq_true_eq]
theorem R_lreturn {d k pc : Nat} {ls : List MV} {h : MH} {x : Int} (hf : fetch k pc = some (.lreturn, 1)) (hr : mR k = some .long) : Run d k pc ls [.inr (.inl x)] h = some (some (.inr (.inl x)), h) := by
  rw [Run_def]
  unfold stp
  rw [hf]
  dsimp only
  rw [if_pos rfl, if_pos hr]
theorem R_return {d k pc : Nat} {ls : List MV} {h : MH} (hf : fetch k pc = some (.return_, 1)) (hr : mR k = none) : Run d k pc ls [] h = some (none, h) := by
  rw [Run_def]
  unfold stp
  rw [hf]
  dsimp only
  rw [if_pos rfl, if_pos hr]

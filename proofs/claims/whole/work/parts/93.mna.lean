/-! new int[n][k] -/
theorem AO_moved {u U : State} (hvm : u.vm.Alike U.vm) (h : va_Nw (Cond.arrayOver (.array .int)) u) : va_Nw (Cond.arrayOver (.array .int)) U := by
  have h1 := Cond.arrayOver_setVmC (args := #[]) (s := u) hvm (.array .int)
  have h2 : (Cond.arrayOver (.array .int)).before #[] (u.setVm U.vm) = (Cond.arrayOver (.array .int)).before #[] U := rfl
  unfold va_Nw at h ⊢
  rw [← h2, h1]
  exact h

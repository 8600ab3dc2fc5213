def GT : List Cond := lw_tbl.filter goodWord
theorem gt_of {x : Cond} (i : Nat) (h : lw_tbl[i]? = some x) (g : goodWord x = true) : x ∈ GT := List.mem_filter.mpr ⟨List.mem_of_getElem? h, g⟩
theorem gt_good {ws : List Cond} (h : ∀ x ∈ ws, x ∈ GT) : GoodIn GT ws := fun x hx => ⟨h x hx, good_of_word (List.mem_filter.mp (h x hx)).2⟩
theorem gt_self : GoodIn GT GT := gt_good fun _ h => h
theorem gt_cons {x : Cond} {ws : List Cond} (hx : x ∈ GT) (h : GoodIn GT ws) : GoodIn GT (x :: ws) := fun y hy => (List.mem_cons.mp hy).elim (fun e => e ▸ ⟨hx, good_of_word (List.mem_filter.mp hx).2⟩) (h y)

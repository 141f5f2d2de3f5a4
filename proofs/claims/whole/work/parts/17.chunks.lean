/-! the words of the tables, by their places in the claim's own -/
def y_big : List Cond := Cond.code x code maxLocals ret :: lw_tbl
def y_ch : Nat → List Cond
  | 0 => [Cond.code x code maxLocals ret]
  | 1 => k2_sels lw_privs_1
  | 2 => k2_sels lw_privs_2
  | 3 => k2_sels lw_privs_3
  | 4 => k2_sels lw_privs_4
  | 5 => k2_sels lw_privs_5
  | 6 => k2_sels lw_privs_6
  | 7 => k2_sels lw_privs_7
  | 8 => k2_sels lw_privs_8
  | 9 => tables_1_1
  | 10 => tables_1_2
  | 11 => tables_1_3
  | 12 => tables_1_4
  | 13 => tables_1_5
  | 14 => tables_1_6
  | 15 => tables_1_7
  | 16 => tables_1_8
  | _ => []
theorem y_sub_t : ∀ w ∈ tables_1, w ∈ y_big := fun w h => List.mem_cons_of_mem _ (List.mem_append_right _ h)
theorem y_sub_p {q : List (MethodName × Nat)} (hq : ∀ z ∈ q, z ∈ lw_privs) : ∀ w ∈ k2_sels q, w ∈ y_big := by
  intro w h
  obtain ⟨z, hz, e⟩ := List.mem_map.mp h
  exact List.mem_cons_of_mem _ (List.mem_append_left _ (List.mem_map.mpr ⟨z, hq z hz, e⟩))
theorem y_ch_big : ∀ (p : Nat) (w : Cond), w ∈ y_ch p → w ∈ y_big
  | 0, w, h => by rw [List.mem_singleton.mp h]; exact List.mem_cons_self
  | 1, w, h => y_sub_p (fun z hz => (List.mem_append_left _ hz : z ∈ lw_privs_1 ++ (lw_privs_2 ++ (lw_privs_3 ++ (lw_privs_4 ++ (lw_privs_5 ++ (lw_privs_6 ++ (lw_privs_7 ++ (lw_privs_8))))))))) w h
  | 2, w, h => y_sub_p (fun z hz => (List.mem_append_right _ (List.mem_append_left _ hz) : z ∈ lw_privs_1 ++ (lw_privs_2 ++ (lw_privs_3 ++ (lw_privs_4 ++ (lw_privs_5 ++ (lw_privs_6 ++ (lw_privs_7 ++ (lw_privs_8))))))))) w h
  | 3, w, h => y_sub_p (fun z hz => (List.mem_append_right _ (List.mem_append_right _ (List.mem_append_left _ hz)) : z ∈ lw_privs_1 ++ (lw_privs_2 ++ (lw_privs_3 ++ (lw_privs_4 ++ (lw_privs_5 ++ (lw_privs_6 ++ (lw_privs_7 ++ (lw_privs_8))))))))) w h
  | 4, w, h => y_sub_p (fun z hz => (List.mem_append_right _ (List.mem_append_right _ (List.mem_append_right _ (List.mem_append_left _ hz))) : z ∈ lw_privs_1 ++ (lw_privs_2 ++ (lw_privs_3 ++ (lw_privs_4 ++ (lw_privs_5 ++ (lw_privs_6 ++ (lw_privs_7 ++ (lw_privs_8))))))))) w h
  | 5, w, h => y_sub_p (fun z hz => (List.mem_append_right _ (List.mem_append_right _ (List.mem_append_right _ (List.mem_append_right _ (List.mem_append_left _ hz)))) : z ∈ lw_privs_1 ++ (lw_privs_2 ++ (lw_privs_3 ++ (lw_privs_4 ++ (lw_privs_5 ++ (lw_privs_6 ++ (lw_privs_7 ++ (lw_privs_8))))))))) w h
  | 6, w, h => y_sub_p (fun z hz => (List.mem_append_right _ (List.mem_append_right _ (List.mem_append_right _ (List.mem_append_right _ (List.mem_append_right _ (List.mem_append_left _ hz))))) : z ∈ lw_privs_1 ++ (lw_privs_2 ++ (lw_privs_3 ++ (lw_privs_4 ++ (lw_privs_5 ++ (lw_privs_6 ++ (lw_privs_7 ++ (lw_privs_8))))))))) w h
  | 7, w, h => y_sub_p (fun z hz => (List.mem_append_right _ (List.mem_append_right _ (List.mem_append_right _ (List.mem_append_right _ (List.mem_append_right _ (List.mem_append_right _ (List.mem_append_left _ hz)))))) : z ∈ lw_privs_1 ++ (lw_privs_2 ++ (lw_privs_3 ++ (lw_privs_4 ++ (lw_privs_5 ++ (lw_privs_6 ++ (lw_privs_7 ++ (lw_privs_8))))))))) w h
  | 8, w, h => y_sub_p (fun z hz => (List.mem_append_right _ (List.mem_append_right _ (List.mem_append_right _ (List.mem_append_right _ (List.mem_append_right _ (List.mem_append_right _ (List.mem_append_right _ (hz))))))) : z ∈ lw_privs_1 ++ (lw_privs_2 ++ (lw_privs_3 ++ (lw_privs_4 ++ (lw_privs_5 ++ (lw_privs_6 ++ (lw_privs_7 ++ (lw_privs_8))))))))) w h
  | 9, w, h => y_sub_t w (List.mem_append_left _ h)
  | 10, w, h => y_sub_t w (List.mem_append_right _ (List.mem_append_left _ h))
  | 11, w, h => y_sub_t w (List.mem_append_right _ (List.mem_append_right _ (List.mem_append_left _ h)))
  | 12, w, h => y_sub_t w (List.mem_append_right _ (List.mem_append_right _ (List.mem_append_right _ (List.mem_append_left _ h))))
  | 13, w, h => y_sub_t w (List.mem_append_right _ (List.mem_append_right _ (List.mem_append_right _ (List.mem_append_right _ (List.mem_append_left _ h)))))
  | 14, w, h => y_sub_t w (List.mem_append_right _ (List.mem_append_right _ (List.mem_append_right _ (List.mem_append_right _ (List.mem_append_right _ (List.mem_append_left _ h))))))
  | 15, w, h => y_sub_t w (List.mem_append_right _ (List.mem_append_right _ (List.mem_append_right _ (List.mem_append_right _ (List.mem_append_right _ (List.mem_append_right _ (List.mem_append_left _ h)))))))
  | 16, w, h => y_sub_t w (List.mem_append_right _ (List.mem_append_right _ (List.mem_append_right _ (List.mem_append_right _ (List.mem_append_right _ (List.mem_append_right _ (List.mem_append_right _ (h))))))))
  | _ + 17, w, h => absurd h List.not_mem_nil
theorem y_pl_ok {ws : List Cond} {ps : List (Nat × Nat)} (hp : ws = ps.filterMap (fun q => (y_ch q.1)[q.2]?)) (hg : ws.all mj_gw = true) : ∀ w ∈ ws, mj_gw w = true ∧ w ∈ y_big := by
  intro w hw
  refine ⟨List.all_eq_true.mp hg w hw, ?_⟩
  rw [hp] at hw
  obtain ⟨q, -, hq⟩ := List.mem_filterMap.mp hw
  exact y_ch_big q.1 w (List.mem_of_getElem? hq)

/-! CHECKS of the tables, by program -/
theorem inA_0 (k : Nat) {w : Jvm.Cond} (h : (k2_sels lw_privs : List Jvm.Cond)[k]? = some w) : w ∈ lw_all := List.mem_append_left _ (List.mem_append_left _ (List.mem_of_getElem? h))
theorem inT_0 (k : Nat) {w : Jvm.Cond} (h : (k2_sels lw_privs : List Jvm.Cond)[k]? = some w) (hg : goodWord w = true) : w ∈ Tgl := List.mem_filter.mpr ⟨inA_0 k h, hg⟩
theorem inN_0 (k : Nat) {w : Jvm.Cond} (h : (k2_sels lw_privs : List Jvm.Cond)[k]? = some w) (hg : isNt w = true) : w ∈ Ntl := List.mem_filter.mpr ⟨inA_0 k h, hg⟩
theorem inA_1 (k : Nat) {w : Jvm.Cond} (h : (tables_1_1 : List Jvm.Cond)[k]? = some w) : w ∈ lw_all := List.mem_append_left _ (List.mem_append_right _ (show _ ∈ tables_1 from List.mem_append_left _ (List.mem_of_getElem? h)))
theorem inT_1 (k : Nat) {w : Jvm.Cond} (h : (tables_1_1 : List Jvm.Cond)[k]? = some w) (hg : goodWord w = true) : w ∈ Tgl := List.mem_filter.mpr ⟨inA_1 k h, hg⟩
theorem inN_1 (k : Nat) {w : Jvm.Cond} (h : (tables_1_1 : List Jvm.Cond)[k]? = some w) (hg : isNt w = true) : w ∈ Ntl := List.mem_filter.mpr ⟨inA_1 k h, hg⟩
theorem inA_2 (k : Nat) {w : Jvm.Cond} (h : (tables_1_2 : List Jvm.Cond)[k]? = some w) : w ∈ lw_all := List.mem_append_left _ (List.mem_append_right _ (show _ ∈ tables_1 from List.mem_append_right _ (List.mem_append_left _ (List.mem_of_getElem? h))))
theorem inT_2 (k : Nat) {w : Jvm.Cond} (h : (tables_1_2 : List Jvm.Cond)[k]? = some w) (hg : goodWord w = true) : w ∈ Tgl := List.mem_filter.mpr ⟨inA_2 k h, hg⟩
theorem inN_2 (k : Nat) {w : Jvm.Cond} (h : (tables_1_2 : List Jvm.Cond)[k]? = some w) (hg : isNt w = true) : w ∈ Ntl := List.mem_filter.mpr ⟨inA_2 k h, hg⟩
theorem inA_3 (k : Nat) {w : Jvm.Cond} (h : (tables_1_3 : List Jvm.Cond)[k]? = some w) : w ∈ lw_all := List.mem_append_left _ (List.mem_append_right _ (show _ ∈ tables_1 from List.mem_append_right _ (List.mem_append_right _ (List.mem_append_left _ (List.mem_of_getElem? h)))))
theorem inT_3 (k : Nat) {w : Jvm.Cond} (h : (tables_1_3 : List Jvm.Cond)[k]? = some w) (hg : goodWord w = true) : w ∈ Tgl := List.mem_filter.mpr ⟨inA_3 k h, hg⟩
theorem inN_3 (k : Nat) {w : Jvm.Cond} (h : (tables_1_3 : List Jvm.Cond)[k]? = some w) (hg : isNt w = true) : w ∈ Ntl := List.mem_filter.mpr ⟨inA_3 k h, hg⟩
theorem inA_4 (k : Nat) {w : Jvm.Cond} (h : (tables_1_4 : List Jvm.Cond)[k]? = some w) : w ∈ lw_all := List.mem_append_left _ (List.mem_append_right _ (show _ ∈ tables_1 from List.mem_append_right _ (List.mem_append_right _ (List.mem_append_right _ (List.mem_append_left _ (List.mem_of_getElem? h))))))
theorem inT_4 (k : Nat) {w : Jvm.Cond} (h : (tables_1_4 : List Jvm.Cond)[k]? = some w) (hg : goodWord w = true) : w ∈ Tgl := List.mem_filter.mpr ⟨inA_4 k h, hg⟩
theorem inN_4 (k : Nat) {w : Jvm.Cond} (h : (tables_1_4 : List Jvm.Cond)[k]? = some w) (hg : isNt w = true) : w ∈ Ntl := List.mem_filter.mpr ⟨inA_4 k h, hg⟩
theorem inA_5 (k : Nat) {w : Jvm.Cond} (h : (tables_1_5 : List Jvm.Cond)[k]? = some w) : w ∈ lw_all := List.mem_append_left _ (List.mem_append_right _ (show _ ∈ tables_1 from List.mem_append_right _ (List.mem_append_right _ (List.mem_append_right _ (List.mem_append_right _ (List.mem_append_left _ (List.mem_of_getElem? h)))))))
theorem inT_5 (k : Nat) {w : Jvm.Cond} (h : (tables_1_5 : List Jvm.Cond)[k]? = some w) (hg : goodWord w = true) : w ∈ Tgl := List.mem_filter.mpr ⟨inA_5 k h, hg⟩
theorem inN_5 (k : Nat) {w : Jvm.Cond} (h : (tables_1_5 : List Jvm.Cond)[k]? = some w) (hg : isNt w = true) : w ∈ Ntl := List.mem_filter.mpr ⟨inA_5 k h, hg⟩
theorem inA_6 (k : Nat) {w : Jvm.Cond} (h : (tables_1_6 : List Jvm.Cond)[k]? = some w) : w ∈ lw_all := List.mem_append_left _ (List.mem_append_right _ (show _ ∈ tables_1 from List.mem_append_right _ (List.mem_append_right _ (List.mem_append_right _ (List.mem_append_right _ (List.mem_append_right _ (List.mem_append_left _ (List.mem_of_getElem? h))))))))
theorem inT_6 (k : Nat) {w : Jvm.Cond} (h : (tables_1_6 : List Jvm.Cond)[k]? = some w) (hg : goodWord w = true) : w ∈ Tgl := List.mem_filter.mpr ⟨inA_6 k h, hg⟩
theorem inN_6 (k : Nat) {w : Jvm.Cond} (h : (tables_1_6 : List Jvm.Cond)[k]? = some w) (hg : isNt w = true) : w ∈ Ntl := List.mem_filter.mpr ⟨inA_6 k h, hg⟩
theorem inA_7 (k : Nat) {w : Jvm.Cond} (h : (tables_1_7 : List Jvm.Cond)[k]? = some w) : w ∈ lw_all := List.mem_append_left _ (List.mem_append_right _ (show _ ∈ tables_1 from List.mem_append_right _ (List.mem_append_right _ (List.mem_append_right _ (List.mem_append_right _ (List.mem_append_right _ (List.mem_append_right _ (List.mem_append_left _ (List.mem_of_getElem? h)))))))))
theorem inT_7 (k : Nat) {w : Jvm.Cond} (h : (tables_1_7 : List Jvm.Cond)[k]? = some w) (hg : goodWord w = true) : w ∈ Tgl := List.mem_filter.mpr ⟨inA_7 k h, hg⟩
theorem inN_7 (k : Nat) {w : Jvm.Cond} (h : (tables_1_7 : List Jvm.Cond)[k]? = some w) (hg : isNt w = true) : w ∈ Ntl := List.mem_filter.mpr ⟨inA_7 k h, hg⟩
theorem inA_8 (k : Nat) {w : Jvm.Cond} (h : (tables_1_8 : List Jvm.Cond)[k]? = some w) : w ∈ lw_all := List.mem_append_left _ (List.mem_append_right _ (show _ ∈ tables_1 from List.mem_append_right _ (List.mem_append_right _ (List.mem_append_right _ (List.mem_append_right _ (List.mem_append_right _ (List.mem_append_right _ (List.mem_append_right _ (List.mem_of_getElem? h)))))))))
theorem inT_8 (k : Nat) {w : Jvm.Cond} (h : (tables_1_8 : List Jvm.Cond)[k]? = some w) (hg : goodWord w = true) : w ∈ Tgl := List.mem_filter.mpr ⟨inA_8 k h, hg⟩
theorem inN_8 (k : Nat) {w : Jvm.Cond} (h : (tables_1_8 : List Jvm.Cond)[k]? = some w) (hg : isNt w = true) : w ∈ Ntl := List.mem_filter.mpr ⟨inA_8 k h, hg⟩
theorem inA_99 (k : Nat) {w : Jvm.Cond} (h : (lw_x : List Jvm.Cond)[k]? = some w) : w ∈ lw_all := List.mem_append_right _ (List.mem_of_getElem? h)
theorem inT_99 (k : Nat) {w : Jvm.Cond} (h : (lw_x : List Jvm.Cond)[k]? = some w) (hg : goodWord w = true) : w ∈ Tgl := List.mem_filter.mpr ⟨inA_99 k h, hg⟩
theorem inN_99 (k : Nat) {w : Jvm.Cond} (h : (lw_x : List Jvm.Cond)[k]? = some w) (hg : isNt w = true) : w ∈ Ntl := List.mem_filter.mpr ⟨inA_99 k h, hg⟩
theorem objCode : Jvm.Cond.code objectInit ⟨#[0xb1]⟩ 1 none ∈ Tgl := inT_1 47 (by decide +kernel) (by decide +kernel)

theorem hc_L_against : ∀ (E : String) (c : Int32), hL_against E = some c → pn_HC mL_against 7 E c := by
  intro E c h
  unfold hL_against at h
  by_cases e0 : E = "java/lang/IndexOutOfBoundsException"
  · rw [if_pos e0] at h
    cases h
    subst e0
    exact ⟨[], ⟨0, 12, 15, 24⟩, [⟨0, 12, 19, 13⟩], "java/lang/IndexOutOfBoundsException", 5, 2, 1, rfl, (fun z hz => nomatch hz), by decide, by decide, (pn_mt 893 (by decide +kernel) (by decide +kernel)), (pn_mt 909 (by decide +kernel) (by decide +kernel)), by decide, Or.inl ⟨dL_against_15, rfl⟩, dL_against_17, by decide, dL_against_18, rfl⟩
  · rw [if_neg e0] at h
    by_cases e1 : E = "java/lang/IllegalArgumentException"
    · rw [if_pos e1] at h
      cases h
      subst e1
      exact ⟨[⟨0, 12, 15, 24⟩], ⟨0, 12, 19, 13⟩, [], "java/lang/IllegalArgumentException", 5, 2, 2, rfl, (fun z hz => by rw [List.mem_singleton] at hz; subst hz; exact Or.inr ⟨by decide, "java/lang/IndexOutOfBoundsException", (pn_mt 893 (by decide +kernel) (by decide +kernel)), by decide⟩), by decide, by decide, (pn_mt 602 (by decide +kernel) (by decide +kernel)), (pn_mt 797 (by decide +kernel) (by decide +kernel)), by decide, Or.inl ⟨dL_against_19, rfl⟩, dL_against_21, by decide, dL_against_22, rfl⟩
    · rw [if_neg e1] at h
      cases h

theorem hc_L_ask : ∀ (E : String) (c : Int32), hL_ask E = some c → pn_HC mL_ask 4 E c := by
  intro E c h
  unfold hL_ask at h
  by_cases e0 : E = "java/lang/IndexOutOfBoundsException"
  · rw [if_pos e0] at h
    cases h
    subst e0
    exact ⟨[], ⟨0, 9, 12, 24⟩, [⟨0, 9, 15, 13⟩], "java/lang/IndexOutOfBoundsException", 3, 1, 1, rfl, (fun z hz => nomatch hz), by decide, by decide, (pn_mt 893 (by decide +kernel) (by decide +kernel)), (pn_mt 909 (by decide +kernel) (by decide +kernel)), by decide, Or.inr ⟨3, rfl, dL_ask_12, rfl⟩, dL_ask_13, by decide, dL_ask_14, rfl⟩
  · rw [if_neg e0] at h
    by_cases e1 : E = "java/lang/IllegalArgumentException"
    · rw [if_pos e1] at h
      cases h
      subst e1
      exact ⟨[⟨0, 9, 12, 24⟩], ⟨0, 9, 15, 13⟩, [], "java/lang/IllegalArgumentException", 3, 1, 2, rfl, (fun z hz => by rw [List.mem_singleton] at hz; subst hz; exact Or.inr ⟨by decide, "java/lang/IndexOutOfBoundsException", (pn_mt 893 (by decide +kernel) (by decide +kernel)), by decide⟩), by decide, by decide, (pn_mt 602 (by decide +kernel) (by decide +kernel)), (pn_mt 797 (by decide +kernel) (by decide +kernel)), by decide, Or.inr ⟨3, rfl, dL_ask_15, rfl⟩, dL_ask_16, by decide, dL_ask_17, rfl⟩
    · rw [if_neg e1] at h
      cases h

theorem hc_L_begin : ∀ (E : String) (c : Int32), hL_begin E = some c → pn_HC mL_begin 5 E c := by
  intro E c h
  unfold hL_begin at h
  by_cases e0 : E = "java/lang/IndexOutOfBoundsException"
  · rw [if_pos e0] at h
    cases h
    subst e0
    exact ⟨[], ⟨0, 17, 20, 24⟩, [], "java/lang/IndexOutOfBoundsException", 4, 2, 1, rfl, (fun z hz => nomatch hz), by decide, by decide, (pn_mt 893 (by decide +kernel) (by decide +kernel)), (pn_mt 909 (by decide +kernel) (by decide +kernel)), by decide, Or.inl ⟨dL_begin_20, rfl⟩, dL_begin_22, by decide, dL_begin_23, rfl⟩
  · rw [if_neg e0] at h
    cases h

theorem hc_L_brave : ∀ (E : String) (c : Int32), hL_brave E = some c → pn_HC mL_brave 4 E c := by
  intro E c h
  unfold hL_brave at h
  by_cases e0 : E = "java/lang/IndexOutOfBoundsException"
  · rw [if_pos e0] at h
    cases h
    subst e0
    exact ⟨[], ⟨0, 9, 12, 24⟩, [], "java/lang/IndexOutOfBoundsException", 3, 1, 1, rfl, (fun z hz => nomatch hz), by decide, by decide, (pn_mt 893 (by decide +kernel) (by decide +kernel)), (pn_mt 909 (by decide +kernel) (by decide +kernel)), by decide, Or.inr ⟨3, rfl, dL_brave_12, rfl⟩, dL_brave_13, by decide, dL_brave_14, rfl⟩
  · rw [if_neg e0] at h
    cases h

theorem hc_L_brings : ∀ (E : String) (c : Int32), hL_brings E = some c → pn_HC mL_brings 4 E c := by
  intro E c h
  unfold hL_brings at h
  by_cases e0 : E = "java/lang/IllegalArgumentException"
  · rw [if_pos e0] at h
    cases h
    subst e0
    exact ⟨[], ⟨0, 9, 12, 13⟩, [], "java/lang/IllegalArgumentException", 3, 1, 1, rfl, (fun z hz => nomatch hz), by decide, by decide, (pn_mt 602 (by decide +kernel) (by decide +kernel)), (pn_mt 797 (by decide +kernel) (by decide +kernel)), by decide, Or.inr ⟨3, rfl, dL_brings_12, rfl⟩, dL_brings_13, by decide, dL_brings_14, rfl⟩
  · rw [if_neg e0] at h
    cases h

theorem hc_L_buy : ∀ (E : String) (c : Int32), hL_buy E = some c → pn_HC mL_buy 3 E c := by
  intro E c h
  unfold hL_buy at h
  by_cases e0 : E = "java/lang/IllegalStateException"
  · rw [if_pos e0] at h
    cases h
    subst e0
    exact ⟨[], ⟨0, 8, 11, 36⟩, [], "java/lang/IllegalStateException", 2, 1, 1, rfl, (fun z hz => nomatch hz), by decide, by decide, (pn_mt 952 (by decide +kernel) (by decide +kernel)), (pn_mt 959 (by decide +kernel) (by decide +kernel)), by decide, Or.inr ⟨2, rfl, dL_buy_11, rfl⟩, dL_buy_12, by decide, dL_buy_13, rfl⟩
  · rw [if_neg e0] at h
    cases h

theorem hc_L_calm : ∀ (E : String) (c : Int32), hL_calm E = some c → pn_HC mL_calm 4 E c := by
  intro E c h
  unfold hL_calm at h
  by_cases e0 : E = "java/lang/IllegalArgumentException"
  · rw [if_pos e0] at h
    cases h
    subst e0
    exact ⟨[], ⟨0, 9, 12, 13⟩, [], "java/lang/IllegalArgumentException", 3, 1, 1, rfl, (fun z hz => nomatch hz), by decide, by decide, (pn_mt 602 (by decide +kernel) (by decide +kernel)), (pn_mt 797 (by decide +kernel) (by decide +kernel)), by decide, Or.inr ⟨3, rfl, dL_calm_12, rfl⟩, dL_calm_13, by decide, dL_calm_14, rfl⟩
  · rw [if_neg e0] at h
    cases h

theorem hc_L_can : ∀ (E : String) (c : Int32), hL_can E = some c → pn_HC mL_can 4 E c := by
  intro E c h
  unfold hL_can at h
  by_cases e0 : E = "java/lang/IndexOutOfBoundsException"
  · rw [if_pos e0] at h
    cases h
    subst e0
    exact ⟨[], ⟨0, 16, 19, 24⟩, [], "java/lang/IndexOutOfBoundsException", 3, 1, 1, rfl, (fun z hz => nomatch hz), by decide, by decide, (pn_mt 893 (by decide +kernel) (by decide +kernel)), (pn_mt 909 (by decide +kernel) (by decide +kernel)), by decide, Or.inr ⟨3, rfl, dL_can_19, rfl⟩, dL_can_20, by decide, dL_can_21, rfl⟩
  · rw [if_neg e0] at h
    cases h

theorem hc_L_comes : ∀ (E : String) (c : Int32), hL_comes E = some c → pn_HC mL_comes 4 E c := by
  intro E c h
  unfold hL_comes at h
  by_cases e0 : E = "java/lang/IndexOutOfBoundsException"
  · rw [if_pos e0] at h
    cases h
    subst e0
    exact ⟨[], ⟨0, 9, 12, 24⟩, [], "java/lang/IndexOutOfBoundsException", 3, 1, 1, rfl, (fun z hz => nomatch hz), by decide, by decide, (pn_mt 893 (by decide +kernel) (by decide +kernel)), (pn_mt 909 (by decide +kernel) (by decide +kernel)), by decide, Or.inr ⟨3, rfl, dL_comes_12, rfl⟩, dL_comes_13, by decide, dL_comes_14, rfl⟩
  · rw [if_neg e0] at h
    cases h

theorem hc_L_feud : ∀ (E : String) (c : Int32), hL_feud E = some c → pn_HC mL_feud 5 E c := by
  intro E c h
  unfold hL_feud at h
  by_cases e0 : E = "java/lang/IndexOutOfBoundsException"
  · rw [if_pos e0] at h
    cases h
    subst e0
    exact ⟨[], ⟨0, 10, 13, 24⟩, [⟨0, 10, 17, 13⟩], "java/lang/IndexOutOfBoundsException", 4, 2, 1, rfl, (fun z hz => nomatch hz), by decide, by decide, (pn_mt 893 (by decide +kernel) (by decide +kernel)), (pn_mt 909 (by decide +kernel) (by decide +kernel)), by decide, Or.inl ⟨dL_feud_13, rfl⟩, dL_feud_15, by decide, dL_feud_16, rfl⟩
  · rw [if_neg e0] at h
    by_cases e1 : E = "java/lang/IllegalArgumentException"
    · rw [if_pos e1] at h
      cases h
      subst e1
      exact ⟨[⟨0, 10, 13, 24⟩], ⟨0, 10, 17, 13⟩, [], "java/lang/IllegalArgumentException", 4, 2, 2, rfl, (fun z hz => by rw [List.mem_singleton] at hz; subst hz; exact Or.inr ⟨by decide, "java/lang/IndexOutOfBoundsException", (pn_mt 893 (by decide +kernel) (by decide +kernel)), by decide⟩), by decide, by decide, (pn_mt 602 (by decide +kernel) (by decide +kernel)), (pn_mt 797 (by decide +kernel) (by decide +kernel)), by decide, Or.inl ⟨dL_feud_17, rfl⟩, dL_feud_19, by decide, dL_feud_20, rfl⟩
    · rw [if_neg e1] at h
      cases h

theorem hc_L_feuded : ∀ (E : String) (c : Int32), hL_feuded E = some c → pn_HC mL_feuded 4 E c := by
  intro E c h
  unfold hL_feuded at h
  by_cases e0 : E = "java/lang/IndexOutOfBoundsException"
  · rw [if_pos e0] at h
    cases h
    subst e0
    exact ⟨[], ⟨0, 9, 12, 24⟩, [], "java/lang/IndexOutOfBoundsException", 3, 1, 1, rfl, (fun z hz => nomatch hz), by decide, by decide, (pn_mt 893 (by decide +kernel) (by decide +kernel)), (pn_mt 909 (by decide +kernel) (by decide +kernel)), by decide, Or.inr ⟨3, rfl, dL_feuded_12, rfl⟩, dL_feuded_13, by decide, dL_feuded_14, rfl⟩
  · rw [if_neg e0] at h
    cases h

theorem hc_L_fewest : ∀ (E : String) (c : Int32), hL_fewest E = some c → pn_HC mL_fewest 5 E c := by
  intro E c h
  unfold hL_fewest at h
  by_cases e0 : E = "java/lang/IndexOutOfBoundsException"
  · rw [if_pos e0] at h
    cases h
    subst e0
    exact ⟨[], ⟨0, 10, 13, 24⟩, [⟨0, 10, 17, 13⟩], "java/lang/IndexOutOfBoundsException", 4, 2, 1, rfl, (fun z hz => nomatch hz), by decide, by decide, (pn_mt 893 (by decide +kernel) (by decide +kernel)), (pn_mt 909 (by decide +kernel) (by decide +kernel)), by decide, Or.inl ⟨dL_fewest_13, rfl⟩, dL_fewest_15, by decide, dL_fewest_16, rfl⟩
  · rw [if_neg e0] at h
    by_cases e1 : E = "java/lang/IllegalArgumentException"
    · rw [if_pos e1] at h
      cases h
      subst e1
      exact ⟨[⟨0, 10, 13, 24⟩], ⟨0, 10, 17, 13⟩, [], "java/lang/IllegalArgumentException", 4, 2, 2, rfl, (fun z hz => by rw [List.mem_singleton] at hz; subst hz; exact Or.inr ⟨by decide, "java/lang/IndexOutOfBoundsException", (pn_mt 893 (by decide +kernel) (by decide +kernel)), by decide⟩), by decide, by decide, (pn_mt 602 (by decide +kernel) (by decide +kernel)), (pn_mt 797 (by decide +kernel) (by decide +kernel)), by decide, Or.inl ⟨dL_fewest_17, rfl⟩, dL_fewest_19, by decide, dL_fewest_20, rfl⟩
    · rw [if_neg e1] at h
      cases h

theorem hc_L_give : ∀ (E : String) (c : Int32), hL_give E = some c → pn_HC mL_give 5 E c := by
  intro E c h
  unfold hL_give at h
  by_cases e0 : E = "java/lang/IndexOutOfBoundsException"
  · rw [if_pos e0] at h
    cases h
    subst e0
    exact ⟨[], ⟨0, 10, 13, 24⟩, [⟨0, 10, 17, 13⟩], "java/lang/IndexOutOfBoundsException", 4, 2, 1, rfl, (fun z hz => nomatch hz), by decide, by decide, (pn_mt 893 (by decide +kernel) (by decide +kernel)), (pn_mt 909 (by decide +kernel) (by decide +kernel)), by decide, Or.inl ⟨dL_give_13, rfl⟩, dL_give_15, by decide, dL_give_16, rfl⟩
  · rw [if_neg e0] at h
    by_cases e1 : E = "java/lang/IllegalArgumentException"
    · rw [if_pos e1] at h
      cases h
      subst e1
      exact ⟨[⟨0, 10, 13, 24⟩], ⟨0, 10, 17, 13⟩, [], "java/lang/IllegalArgumentException", 4, 2, 2, rfl, (fun z hz => by rw [List.mem_singleton] at hz; subst hz; exact Or.inr ⟨by decide, "java/lang/IndexOutOfBoundsException", (pn_mt 893 (by decide +kernel) (by decide +kernel)), by decide⟩), by decide, by decide, (pn_mt 602 (by decide +kernel) (by decide +kernel)), (pn_mt 797 (by decide +kernel) (by decide +kernel)), by decide, Or.inl ⟨dL_give_17, rfl⟩, dL_give_19, by decide, dL_give_20, rfl⟩
    · rw [if_neg e1] at h
      cases h

theorem hc_L_heard : ∀ (E : String) (c : Int32), hL_heard E = some c → pn_HC mL_heard 5 E c := by
  intro E c h
  unfold hL_heard at h
  by_cases e0 : E = "java/lang/IndexOutOfBoundsException"
  · rw [if_pos e0] at h
    cases h
    subst e0
    exact ⟨[], ⟨0, 10, 13, 24⟩, [⟨0, 10, 17, 13⟩], "java/lang/IndexOutOfBoundsException", 4, 2, 1, rfl, (fun z hz => nomatch hz), by decide, by decide, (pn_mt 893 (by decide +kernel) (by decide +kernel)), (pn_mt 909 (by decide +kernel) (by decide +kernel)), by decide, Or.inl ⟨dL_heard_13, rfl⟩, dL_heard_15, by decide, dL_heard_16, rfl⟩
  · rw [if_neg e0] at h
    by_cases e1 : E = "java/lang/IllegalArgumentException"
    · rw [if_pos e1] at h
      cases h
      subst e1
      exact ⟨[⟨0, 10, 13, 24⟩], ⟨0, 10, 17, 13⟩, [], "java/lang/IllegalArgumentException", 4, 2, 2, rfl, (fun z hz => by rw [List.mem_singleton] at hz; subst hz; exact Or.inr ⟨by decide, "java/lang/IndexOutOfBoundsException", (pn_mt 893 (by decide +kernel) (by decide +kernel)), by decide⟩), by decide, by decide, (pn_mt 602 (by decide +kernel) (by decide +kernel)), (pn_mt 797 (by decide +kernel) (by decide +kernel)), by decide, Or.inl ⟨dL_heard_17, rfl⟩, dL_heard_19, by decide, dL_heard_20, rfl⟩
    · rw [if_neg e1] at h
      cases h

theorem hc_L_keep : ∀ (E : String) (c : Int32), hL_keep E = some c → pn_HC mL_keep 4 E c := by
  intro E c h
  unfold hL_keep at h
  by_cases e0 : E = "java/lang/IndexOutOfBoundsException"
  · rw [if_pos e0] at h
    cases h
    subst e0
    exact ⟨[], ⟨0, 9, 12, 24⟩, [], "java/lang/IndexOutOfBoundsException", 3, 1, 1, rfl, (fun z hz => nomatch hz), by decide, by decide, (pn_mt 893 (by decide +kernel) (by decide +kernel)), (pn_mt 909 (by decide +kernel) (by decide +kernel)), by decide, Or.inr ⟨3, rfl, dL_keep_12, rfl⟩, dL_keep_13, by decide, dL_keep_14, rfl⟩
  · rw [if_neg e0] at h
    cases h

theorem hc_L_law : ∀ (E : String) (c : Int32), hL_law E = some c → pn_HC mL_law 3 E c := by
  intro E c h
  unfold hL_law at h
  by_cases e0 : E = "java/lang/IllegalArgumentException"
  · rw [if_pos e0] at h
    cases h
    subst e0
    exact ⟨[], ⟨0, 8, 11, 13⟩, [], "java/lang/IllegalArgumentException", 2, 1, 1, rfl, (fun z hz => nomatch hz), by decide, by decide, (pn_mt 602 (by decide +kernel) (by decide +kernel)), (pn_mt 797 (by decide +kernel) (by decide +kernel)), by decide, Or.inr ⟨2, rfl, dL_law_11, rfl⟩, dL_law_12, by decide, dL_law_13, rfl⟩
  · rw [if_neg e0] at h
    cases h

theorem hc_L_led : ∀ (E : String) (c : Int32), hL_led E = some c → pn_HC mL_led 5 E c := by
  intro E c h
  unfold hL_led at h
  by_cases e0 : E = "java/lang/IndexOutOfBoundsException"
  · rw [if_pos e0] at h
    cases h
    subst e0
    exact ⟨[], ⟨0, 10, 13, 24⟩, [], "java/lang/IndexOutOfBoundsException", 4, 2, 1, rfl, (fun z hz => nomatch hz), by decide, by decide, (pn_mt 893 (by decide +kernel) (by decide +kernel)), (pn_mt 909 (by decide +kernel) (by decide +kernel)), by decide, Or.inl ⟨dL_led_13, rfl⟩, dL_led_15, by decide, dL_led_16, rfl⟩
  · rw [if_neg e0] at h
    cases h

theorem hc_L_log : ∀ (E : String) (c : Int32), hL_log E = some c → pn_HC mL_log 5 E c := by
  intro E c h
  unfold hL_log at h
  by_cases e0 : E = "java/util/NoSuchElementException"
  · rw [if_pos e0] at h
    cases h
    subst e0
    exact ⟨[], ⟨0, 10, 13, 26⟩, [], "java/util/NoSuchElementException", 4, 2, 1, rfl, (fun z hz => nomatch hz), by decide, by decide, (pn_mt 894 (by decide +kernel) (by decide +kernel)), (pn_mt 924 (by decide +kernel) (by decide +kernel)), by decide, Or.inl ⟨dL_log_13, rfl⟩, dL_log_15, by decide, dL_log_16, rfl⟩
  · rw [if_neg e0] at h
    cases h

theorem hc_L_loud : ∀ (E : String) (c : Int32), hL_loud E = some c → pn_HC mL_loud 4 E c := by
  intro E c h
  unfold hL_loud at h
  by_cases e0 : E = "java/lang/IndexOutOfBoundsException"
  · rw [if_pos e0] at h
    cases h
    subst e0
    exact ⟨[], ⟨0, 9, 12, 24⟩, [], "java/lang/IndexOutOfBoundsException", 3, 1, 1, rfl, (fun z hz => nomatch hz), by decide, by decide, (pn_mt 893 (by decide +kernel) (by decide +kernel)), (pn_mt 909 (by decide +kernel) (by decide +kernel)), by decide, Or.inr ⟨3, rfl, dL_loud_12, rfl⟩, dL_loud_13, by decide, dL_loud_14, rfl⟩
  · rw [if_neg e0] at h
    cases h

theorem hc_L_name : ∀ (E : String) (c : Int32), hL_name E = some c → pn_HC mL_name 4 E c := by
  intro E c h
  unfold hL_name at h
  by_cases e0 : E = "java/lang/IndexOutOfBoundsException"
  · rw [if_pos e0] at h
    cases h
    subst e0
    exact ⟨[], ⟨0, 9, 12, 24⟩, [⟨0, 9, 15, 36⟩], "java/lang/IndexOutOfBoundsException", 3, 1, 1, rfl, (fun z hz => nomatch hz), by decide, by decide, (pn_mt 893 (by decide +kernel) (by decide +kernel)), (pn_mt 909 (by decide +kernel) (by decide +kernel)), by decide, Or.inr ⟨3, rfl, dL_name_12, rfl⟩, dL_name_13, by decide, dL_name_14, rfl⟩
  · rw [if_neg e0] at h
    by_cases e1 : E = "java/lang/IllegalStateException"
    · rw [if_pos e1] at h
      cases h
      subst e1
      exact ⟨[⟨0, 9, 12, 24⟩], ⟨0, 9, 15, 36⟩, [], "java/lang/IllegalStateException", 3, 1, 2, rfl, (fun z hz => by rw [List.mem_singleton] at hz; subst hz; exact Or.inr ⟨by decide, "java/lang/IndexOutOfBoundsException", (pn_mt 893 (by decide +kernel) (by decide +kernel)), by decide⟩), by decide, by decide, (pn_mt 952 (by decide +kernel) (by decide +kernel)), (pn_mt 959 (by decide +kernel) (by decide +kernel)), by decide, Or.inr ⟨3, rfl, dL_name_15, rfl⟩, dL_name_16, by decide, dL_name_17, rfl⟩
    · rw [if_neg e1] at h
      cases h

theorem hc_L_nights : ∀ (E : String) (c : Int32), hL_nights E = some c → pn_HC mL_nights 4 E c := by
  intro E c h
  unfold hL_nights at h
  by_cases e0 : E = "java/lang/IllegalArgumentException"
  · rw [if_pos e0] at h
    cases h
    subst e0
    exact ⟨[], ⟨0, 9, 12, 13⟩, [], "java/lang/IllegalArgumentException", 3, 1, 1, rfl, (fun z hz => nomatch hz), by decide, by decide, (pn_mt 602 (by decide +kernel) (by decide +kernel)), (pn_mt 797 (by decide +kernel) (by decide +kernel)), by decide, Or.inr ⟨3, rfl, dL_nights_12, rfl⟩, dL_nights_13, by decide, dL_nights_14, rfl⟩
  · rw [if_neg e0] at h
    cases h

theorem hc_L_person : ∀ (E : String) (c : Int32), hL_person E = some c → pn_HC mL_person 5 E c := by
  intro E c h
  unfold hL_person at h
  by_cases e0 : E = "java/lang/IndexOutOfBoundsException"
  · rw [if_pos e0] at h
    cases h
    subst e0
    exact ⟨[], ⟨0, 10, 13, 24⟩, [⟨0, 10, 17, 26⟩], "java/lang/IndexOutOfBoundsException", 4, 2, 1, rfl, (fun z hz => nomatch hz), by decide, by decide, (pn_mt 893 (by decide +kernel) (by decide +kernel)), (pn_mt 909 (by decide +kernel) (by decide +kernel)), by decide, Or.inl ⟨dL_person_13, rfl⟩, dL_person_15, by decide, dL_person_16, rfl⟩
  · rw [if_neg e0] at h
    by_cases e1 : E = "java/util/NoSuchElementException"
    · rw [if_pos e1] at h
      cases h
      subst e1
      exact ⟨[⟨0, 10, 13, 24⟩], ⟨0, 10, 17, 26⟩, [], "java/util/NoSuchElementException", 4, 2, 2, rfl, (fun z hz => by rw [List.mem_singleton] at hz; subst hz; exact Or.inr ⟨by decide, "java/lang/IndexOutOfBoundsException", (pn_mt 893 (by decide +kernel) (by decide +kernel)), by decide⟩), by decide, by decide, (pn_mt 894 (by decide +kernel) (by decide +kernel)), (pn_mt 924 (by decide +kernel) (by decide +kernel)), by decide, Or.inl ⟨dL_person_17, rfl⟩, dL_person_19, by decide, dL_person_20, rfl⟩
    · rw [if_neg e1] at h
      cases h

theorem hc_L_price : ∀ (E : String) (c : Int32), hL_price E = some c → pn_HC mL_price 4 E c := by
  intro E c h
  unfold hL_price at h
  by_cases e0 : E = "java/lang/IndexOutOfBoundsException"
  · rw [if_pos e0] at h
    cases h
    subst e0
    exact ⟨[], ⟨0, 9, 12, 24⟩, [], "java/lang/IndexOutOfBoundsException", 3, 1, 1, rfl, (fun z hz => nomatch hz), by decide, by decide, (pn_mt 893 (by decide +kernel) (by decide +kernel)), (pn_mt 909 (by decide +kernel) (by decide +kernel)), by decide, Or.inr ⟨3, rfl, dL_price_12, rfl⟩, dL_price_13, by decide, dL_price_14, rfl⟩
  · rw [if_neg e0] at h
    cases h

theorem hc_L_rests : ∀ (E : String) (c : Int32), hL_rests E = some c → pn_HC mL_rests 4 E c := by
  intro E c h
  unfold hL_rests at h
  by_cases e0 : E = "java/lang/IndexOutOfBoundsException"
  · rw [if_pos e0] at h
    cases h
    subst e0
    exact ⟨[], ⟨0, 9, 12, 24⟩, [], "java/lang/IndexOutOfBoundsException", 3, 1, 1, rfl, (fun z hz => nomatch hz), by decide, by decide, (pn_mt 893 (by decide +kernel) (by decide +kernel)), (pn_mt 909 (by decide +kernel) (by decide +kernel)), by decide, Or.inr ⟨3, rfl, dL_rests_12, rfl⟩, dL_rests_13, by decide, dL_rests_14, rfl⟩
  · rw [if_neg e0] at h
    cases h

theorem hc_L_ring : ∀ (E : String) (c : Int32), hL_ring E = some c → pn_HC mL_ring 4 E c := by
  intro E c h
  unfold hL_ring at h
  by_cases e0 : E = "java/lang/IndexOutOfBoundsException"
  · rw [if_pos e0] at h
    cases h
    subst e0
    exact ⟨[], ⟨0, 16, 19, 24⟩, [], "java/lang/IndexOutOfBoundsException", 3, 1, 1, rfl, (fun z hz => nomatch hz), by decide, by decide, (pn_mt 893 (by decide +kernel) (by decide +kernel)), (pn_mt 909 (by decide +kernel) (by decide +kernel)), by decide, Or.inr ⟨3, rfl, dL_ring_19, rfl⟩, dL_ring_20, by decide, dL_ring_21, rfl⟩
  · rw [if_neg e0] at h
    cases h

theorem hc_L_rounds : ∀ (E : String) (c : Int32), hL_rounds E = some c → pn_HC mL_rounds 4 E c := by
  intro E c h
  unfold hL_rounds at h
  by_cases e0 : E = "java/lang/IndexOutOfBoundsException"
  · rw [if_pos e0] at h
    cases h
    subst e0
    exact ⟨[], ⟨0, 9, 12, 24⟩, [], "java/lang/IndexOutOfBoundsException", 3, 1, 1, rfl, (fun z hz => nomatch hz), by decide, by decide, (pn_mt 893 (by decide +kernel) (by decide +kernel)), (pn_mt 909 (by decide +kernel) (by decide +kernel)), by decide, Or.inr ⟨3, rfl, dL_rounds_12, rfl⟩, dL_rounds_13, by decide, dL_rounds_14, rfl⟩
  · rw [if_neg e0] at h
    cases h

theorem hc_L_share : ∀ (E : String) (c : Int32), hL_share E = some c → pn_HC mL_share 5 E c := by
  intro E c h
  unfold hL_share at h
  by_cases e0 : E = "java/lang/IndexOutOfBoundsException"
  · rw [if_pos e0] at h
    cases h
    subst e0
    exact ⟨[], ⟨0, 10, 13, 24⟩, [⟨0, 10, 17, 13⟩], "java/lang/IndexOutOfBoundsException", 4, 2, 1, rfl, (fun z hz => nomatch hz), by decide, by decide, (pn_mt 893 (by decide +kernel) (by decide +kernel)), (pn_mt 909 (by decide +kernel) (by decide +kernel)), by decide, Or.inl ⟨dL_share_13, rfl⟩, dL_share_15, by decide, dL_share_16, rfl⟩
  · rw [if_neg e0] at h
    by_cases e1 : E = "java/lang/IllegalArgumentException"
    · rw [if_pos e1] at h
      cases h
      subst e1
      exact ⟨[⟨0, 10, 13, 24⟩], ⟨0, 10, 17, 13⟩, [], "java/lang/IllegalArgumentException", 4, 2, 2, rfl, (fun z hz => by rw [List.mem_singleton] at hz; subst hz; exact Or.inr ⟨by decide, "java/lang/IndexOutOfBoundsException", (pn_mt 893 (by decide +kernel) (by decide +kernel)), by decide⟩), by decide, by decide, (pn_mt 602 (by decide +kernel) (by decide +kernel)), (pn_mt 797 (by decide +kernel) (by decide +kernel)), by decide, Or.inl ⟨dL_share_17, rfl⟩, dL_share_19, by decide, dL_share_20, rfl⟩
    · rw [if_neg e1] at h
      cases h

theorem hc_L_span : ∀ (E : String) (c : Int32), hL_span E = some c → pn_HC mL_span 5 E c := by
  intro E c h
  unfold hL_span at h
  by_cases e0 : E = "java/lang/IllegalArgumentException"
  · rw [if_pos e0] at h
    cases h
    subst e0
    exact ⟨[], ⟨0, 10, 13, 13⟩, [], "java/lang/IllegalArgumentException", 4, 2, 1, rfl, (fun z hz => nomatch hz), by decide, by decide, (pn_mt 602 (by decide +kernel) (by decide +kernel)), (pn_mt 797 (by decide +kernel) (by decide +kernel)), by decide, Or.inl ⟨dL_span_13, rfl⟩, dL_span_15, by decide, dL_span_16, rfl⟩
  · rw [if_neg e0] at h
    cases h

theorem hc_L_spent : ∀ (E : String) (c : Int32), hL_spent E = some c → pn_HC mL_spent 5 E c := by
  intro E c h
  unfold hL_spent at h
  by_cases e0 : E = "java/lang/IndexOutOfBoundsException"
  · rw [if_pos e0] at h
    cases h
    subst e0
    exact ⟨[], ⟨0, 10, 13, 24⟩, [⟨0, 10, 17, 13⟩], "java/lang/IndexOutOfBoundsException", 4, 2, 1, rfl, (fun z hz => nomatch hz), by decide, by decide, (pn_mt 893 (by decide +kernel) (by decide +kernel)), (pn_mt 909 (by decide +kernel) (by decide +kernel)), by decide, Or.inl ⟨dL_spent_13, rfl⟩, dL_spent_15, by decide, dL_spent_16, rfl⟩
  · rw [if_neg e0] at h
    by_cases e1 : E = "java/lang/IllegalArgumentException"
    · rw [if_pos e1] at h
      cases h
      subst e1
      exact ⟨[⟨0, 10, 13, 24⟩], ⟨0, 10, 17, 13⟩, [], "java/lang/IllegalArgumentException", 4, 2, 2, rfl, (fun z hz => by rw [List.mem_singleton] at hz; subst hz; exact Or.inr ⟨by decide, "java/lang/IndexOutOfBoundsException", (pn_mt 893 (by decide +kernel) (by decide +kernel)), by decide⟩), by decide, by decide, (pn_mt 602 (by decide +kernel) (by decide +kernel)), (pn_mt 797 (by decide +kernel) (by decide +kernel)), by decide, Or.inl ⟨dL_spent_17, rfl⟩, dL_spent_19, by decide, dL_spent_20, rfl⟩
    · rw [if_neg e1] at h
      cases h

theorem hc_L_teach : ∀ (E : String) (c : Int32), hL_teach E = some c → pn_HC mL_teach 5 E c := by
  intro E c h
  unfold hL_teach at h
  by_cases e0 : E = "java/lang/IndexOutOfBoundsException"
  · rw [if_pos e0] at h
    cases h
    subst e0
    exact ⟨[], ⟨0, 10, 13, 24⟩, [⟨0, 10, 17, 13⟩], "java/lang/IndexOutOfBoundsException", 4, 2, 1, rfl, (fun z hz => nomatch hz), by decide, by decide, (pn_mt 893 (by decide +kernel) (by decide +kernel)), (pn_mt 909 (by decide +kernel) (by decide +kernel)), by decide, Or.inl ⟨dL_teach_13, rfl⟩, dL_teach_15, by decide, dL_teach_16, rfl⟩
  · rw [if_neg e0] at h
    by_cases e1 : E = "java/lang/IllegalArgumentException"
    · rw [if_pos e1] at h
      cases h
      subst e1
      exact ⟨[⟨0, 10, 13, 24⟩], ⟨0, 10, 17, 13⟩, [], "java/lang/IllegalArgumentException", 4, 2, 2, rfl, (fun z hz => by rw [List.mem_singleton] at hz; subst hz; exact Or.inr ⟨by decide, "java/lang/IndexOutOfBoundsException", (pn_mt 893 (by decide +kernel) (by decide +kernel)), by decide⟩), by decide, by decide, (pn_mt 602 (by decide +kernel) (by decide +kernel)), (pn_mt 797 (by decide +kernel) (by decide +kernel)), by decide, Or.inl ⟨dL_teach_17, rfl⟩, dL_teach_19, by decide, dL_teach_20, rfl⟩
    · rw [if_neg e1] at h
      cases h

theorem hc_L_tips : ∀ (E : String) (c : Int32), hL_tips E = some c → pn_HC mL_tips 4 E c := by
  intro E c h
  unfold hL_tips at h
  by_cases e0 : E = "java/lang/IndexOutOfBoundsException"
  · rw [if_pos e0] at h
    cases h
    subst e0
    exact ⟨[], ⟨0, 9, 12, 24⟩, [], "java/lang/IndexOutOfBoundsException", 3, 1, 1, rfl, (fun z hz => nomatch hz), by decide, by decide, (pn_mt 893 (by decide +kernel) (by decide +kernel)), (pn_mt 909 (by decide +kernel) (by decide +kernel)), by decide, Or.inr ⟨3, rfl, dL_tips_12, rfl⟩, dL_tips_13, by decide, dL_tips_14, rfl⟩
  · rw [if_neg e0] at h
    cases h

theorem hc_L_trial : ∀ (E : String) (c : Int32), hL_trial E = some c → pn_HC mL_trial 5 E c := by
  intro E c h
  unfold hL_trial at h
  by_cases e0 : E = "java/lang/IllegalArgumentException"
  · rw [if_pos e0] at h
    cases h
    subst e0
    exact ⟨[], ⟨0, 10, 13, 13⟩, [], "java/lang/IllegalArgumentException", 4, 2, 1, rfl, (fun z hz => nomatch hz), by decide, by decide, (pn_mt 602 (by decide +kernel) (by decide +kernel)), (pn_mt 797 (by decide +kernel) (by decide +kernel)), by decide, Or.inl ⟨dL_trial_13, rfl⟩, dL_trial_15, by decide, dL_trial_16, rfl⟩
  · rw [if_neg e0] at h
    cases h

theorem hc_L_village : ∀ (E : String) (c : Int32), hL_village E = some c → pn_HC mL_village 3 E c := by
  intro E c h
  unfold hL_village at h
  by_cases e0 : E = "java/lang/IllegalArgumentException"
  · rw [if_pos e0] at h
    cases h
    subst e0
    exact ⟨[], ⟨0, 8, 11, 13⟩, [⟨0, 8, 14, 15⟩], "java/lang/IllegalArgumentException", 2, 1, 1, rfl, (fun z hz => nomatch hz), by decide, by decide, (pn_mt 602 (by decide +kernel) (by decide +kernel)), (pn_mt 797 (by decide +kernel) (by decide +kernel)), by decide, Or.inr ⟨2, rfl, dL_village_11, rfl⟩, dL_village_12, by decide, dL_village_13, rfl⟩
  · rw [if_neg e0] at h
    by_cases e1 : E = "java/lang/UnsupportedOperationException"
    · rw [if_pos e1] at h
      cases h
      subst e1
      exact ⟨[⟨0, 8, 11, 13⟩], ⟨0, 8, 14, 15⟩, [], "java/lang/UnsupportedOperationException", 2, 1, 2, rfl, (fun z hz => by rw [List.mem_singleton] at hz; subst hz; exact Or.inr ⟨by decide, "java/lang/IllegalArgumentException", (pn_mt 602 (by decide +kernel) (by decide +kernel)), by decide⟩), by decide, by decide, (pn_mt 603 (by decide +kernel) (by decide +kernel)), (pn_mt 863 (by decide +kernel) (by decide +kernel)), by decide, Or.inr ⟨2, rfl, dL_village_14, rfl⟩, dL_village_15, by decide, dL_village_16, rfl⟩
    · rw [if_neg e1] at h
      cases h

theorem hc_L_watched : ∀ (E : String) (c : Int32), hL_watched E = some c → pn_HC mL_watched 4 E c := by
  intro E c h
  unfold hL_watched at h
  by_cases e0 : E = "java/lang/IndexOutOfBoundsException"
  · rw [if_pos e0] at h
    cases h
    subst e0
    exact ⟨[], ⟨0, 9, 12, 24⟩, [], "java/lang/IndexOutOfBoundsException", 3, 1, 1, rfl, (fun z hz => nomatch hz), by decide, by decide, (pn_mt 893 (by decide +kernel) (by decide +kernel)), (pn_mt 909 (by decide +kernel) (by decide +kernel)), by decide, Or.inr ⟨3, rfl, dL_watched_12, rfl⟩, dL_watched_13, by decide, dL_watched_14, rfl⟩
  · rw [if_neg e0] at h
    cases h

theorem hc_L_when : ∀ (E : String) (c : Int32), hL_when E = some c → pn_HC mL_when 5 E c := by
  intro E c h
  unfold hL_when at h
  by_cases e0 : E = "java/lang/IndexOutOfBoundsException"
  · rw [if_pos e0] at h
    cases h
    subst e0
    exact ⟨[], ⟨0, 10, 13, 24⟩, [⟨0, 10, 17, 13⟩], "java/lang/IndexOutOfBoundsException", 4, 2, 1, rfl, (fun z hz => nomatch hz), by decide, by decide, (pn_mt 893 (by decide +kernel) (by decide +kernel)), (pn_mt 909 (by decide +kernel) (by decide +kernel)), by decide, Or.inl ⟨dL_when_13, rfl⟩, dL_when_15, by decide, dL_when_16, rfl⟩
  · rw [if_neg e0] at h
    by_cases e1 : E = "java/lang/IllegalArgumentException"
    · rw [if_pos e1] at h
      cases h
      subst e1
      exact ⟨[⟨0, 10, 13, 24⟩], ⟨0, 10, 17, 13⟩, [], "java/lang/IllegalArgumentException", 4, 2, 2, rfl, (fun z hz => by rw [List.mem_singleton] at hz; subst hz; exact Or.inr ⟨by decide, "java/lang/IndexOutOfBoundsException", (pn_mt 893 (by decide +kernel) (by decide +kernel)), by decide⟩), by decide, by decide, (pn_mt 602 (by decide +kernel) (by decide +kernel)), (pn_mt 797 (by decide +kernel) (by decide +kernel)), by decide, Or.inl ⟨dL_when_17, rfl⟩, dL_when_19, by decide, dL_when_20, rfl⟩
    · rw [if_neg e1] at h
      cases h

theorem hc_L_wrong : ∀ (E : String) (c : Int32), hL_wrong E = some c → pn_HC mL_wrong 5 E c := by
  intro E c h
  unfold hL_wrong at h
  by_cases e0 : E = "java/lang/IndexOutOfBoundsException"
  · rw [if_pos e0] at h
    cases h
    subst e0
    exact ⟨[], ⟨0, 10, 13, 24⟩, [⟨0, 10, 17, 13⟩], "java/lang/IndexOutOfBoundsException", 4, 2, 1, rfl, (fun z hz => nomatch hz), by decide, by decide, (pn_mt 893 (by decide +kernel) (by decide +kernel)), (pn_mt 909 (by decide +kernel) (by decide +kernel)), by decide, Or.inl ⟨dL_wrong_13, rfl⟩, dL_wrong_15, by decide, dL_wrong_16, rfl⟩
  · rw [if_neg e0] at h
    by_cases e1 : E = "java/lang/IllegalArgumentException"
    · rw [if_pos e1] at h
      cases h
      subst e1
      exact ⟨[⟨0, 10, 13, 24⟩], ⟨0, 10, 17, 13⟩, [], "java/lang/IllegalArgumentException", 4, 2, 2, rfl, (fun z hz => by rw [List.mem_singleton] at hz; subst hz; exact Or.inr ⟨by decide, "java/lang/IndexOutOfBoundsException", (pn_mt 893 (by decide +kernel) (by decide +kernel)), by decide⟩), by decide, by decide, (pn_mt 602 (by decide +kernel) (by decide +kernel)), (pn_mt 797 (by decide +kernel) (by decide +kernel)), by decide, Or.inl ⟨dL_wrong_17, rfl⟩, dL_wrong_19, by decide, dL_wrong_20, rfl⟩
    · rw [if_neg e1] at h
      cases h

set_option maxRecDepth 20000 in
set_option maxHeartbeats 4000000 in
theorem ct_L_against (Γ : pn_G) (a1 : Int32) (a2 : Int32) (a3 : Int32) (σ : pn_S) : ∀ r, fL_against a1 a2 a3 σ = some r → pn_CH Γ 5 mL_against [.ref 0, .int a1, .int a2, .int a3, .ref 96] σ (pn_w3 r) := by
  refine pn_ofH (ls := [.ref 0, .int a1, .int a2, .int a3, .ref 96, .null]) (by decide) (pn_cat rfl) rfl (Nat.le_of_ble_eq_true rfl) ?_
  rw [fL_against]
  refine pn_aload dL_against_0 rfl rfl ?_
  refine pn_iconst dL_against_2 rfl ic_0 ?_
  refine pn_aload_n dL_against_3 rfl rfl rfl ?_
  refine pn_iload_n dL_against_4 rfl rfl rfl ?_
  refine pn_iload_n dL_against_5 rfl rfl rfl ?_
  refine pn_iload_n dL_against_6 rfl rfl rfl ?_
  refine pn_cxc (fun r9 h9 => pn_LKV dL_against_7 lm_L_28 (ct_X10_against Γ a1 a2 a3 σ r9 h9) (by decide) qt_0 qk_0 rfl rfl (Nat.le_of_ble_eq_true rfl)) rfl hc_L_against (fun x1 σ1 => ?_)
  refine pn_i2l dL_against_10 rfl ?_
  refine pn_last dL_against_11 rfl qt_96 qk_96 (by decide) ?_
  refine pn_goto (pc' := 23) dL_against_12 rfl ?_
  refine pn_iconst dL_against_23 rfl ic_0 ?_
  exact pn_iretv dL_against_24 rfl rfl rfl

set_option maxRecDepth 20000 in
set_option maxHeartbeats 4000000 in
theorem ct_L_ask (Γ : pn_G) (a1 : Int32) (σ : pn_S) : ∀ r, fL_ask a1 σ = some r → pn_CH Γ 7 mL_ask [.ref 0, .int a1, .ref 96] σ (pn_w3 r) := by
  refine pn_ofH (ls := [.ref 0, .int a1, .ref 96, .null]) (by decide) (pn_cat rfl) rfl (Nat.le_of_ble_eq_true rfl) ?_
  rw [fL_ask]
  refine pn_aload_n dL_ask_0 rfl rfl rfl ?_
  refine pn_iconst dL_ask_1 rfl ic_0 ?_
  refine pn_aload_n dL_ask_2 rfl rfl rfl ?_
  refine pn_iload_n dL_ask_3 rfl rfl rfl ?_
  refine pn_cxc (fun r9 h9 => pn_LKV dL_ask_4 lm_L_98 (ct_X10_ask Γ a1 σ r9 h9) (by decide) qt_0 qk_0 rfl rfl (Nat.le_of_ble_eq_true rfl)) rfl hc_L_ask (fun x1 σ1 => ?_)
  refine pn_i2l dL_ask_7 rfl ?_
  refine pn_last dL_ask_8 rfl qt_96 qk_96 (by decide) ?_
  refine pn_goto (pc' := 18) dL_ask_9 rfl ?_
  refine pn_iconst dL_ask_18 rfl ic_0 ?_
  exact pn_iretv dL_ask_19 rfl rfl rfl

set_option maxRecDepth 20000 in
set_option maxHeartbeats 4000000 in
theorem ct_L_begin (Γ : pn_G) (a1 : Int32) (a2 : Int32) (σ : pn_S) : ∀ r, fL_begin a1 a2 σ = some r → pn_CH Γ 4 mL_begin [.ref 0, .int a1, .int a2, .ref 96] σ (pn_w3 r) := by
  refine pn_ofH (ls := [.ref 0, .int a1, .int a2, .ref 96, .null]) (by decide) (pn_cat rfl) rfl (Nat.le_of_ble_eq_true rfl) ?_
  rw [fL_begin]
  refine pn_aload_n dL_begin_0 rfl rfl rfl ?_
  refine pn_iconst dL_begin_1 rfl ic_0 ?_
  refine pn_aload_n dL_begin_2 rfl rfl rfl ?_
  refine pn_iload_n dL_begin_3 rfl rfl rfl ?_
  refine pn_iload_n dL_begin_4 rfl rfl rfl ?_
  refine pn_cxc (fun r9 h9 => pn_LKV dL_begin_5 lm_L_38 (ct_X10_begin Γ a1 a2 σ r9 h9) (by decide) qt_0 qk_0 rfl rfl (Nat.le_of_ble_eq_true rfl)) rfl hc_L_begin (fun x1 σ1 => ?_)
  refine pn_if_eq (tgt := 15) dL_begin_8 rfl rfl (fun c2 => ?_) (fun c2 => ?_)
  · refine pn_lconst (x := (0 : Int32)) dL_begin_15 rfl (by decide) ?_
    refine pn_last dL_begin_16 rfl qt_96 qk_96 (by decide) ?_
    refine pn_goto (pc' := 24) dL_begin_17 rfl ?_
    refine pn_iconst dL_begin_24 rfl ic_0 ?_
    exact pn_iretv dL_begin_25 rfl rfl rfl
  · refine pn_lconst (x := (1 : Int32)) dL_begin_11 rfl (by decide) ?_
    refine pn_goto (pc' := 16) dL_begin_12 rfl ?_
    refine pn_last dL_begin_16 rfl qt_96 qk_96 (by decide) ?_
    refine pn_goto (pc' := 24) dL_begin_17 rfl ?_
    refine pn_iconst dL_begin_24 rfl ic_0 ?_
    exact pn_iretv dL_begin_25 rfl rfl rfl

set_option maxRecDepth 20000 in
set_option maxHeartbeats 4000000 in
theorem ct_L_brave (Γ : pn_G) (a1 : Int32) (σ : pn_S) : ∀ r, fL_brave a1 σ = some r → pn_CH Γ 6 mL_brave [.ref 0, .int a1, .ref 96] σ (pn_w3 r) := by
  refine pn_ofH (ls := [.ref 0, .int a1, .ref 96, .null]) (by decide) (pn_cat rfl) rfl (Nat.le_of_ble_eq_true rfl) ?_
  rw [fL_brave]
  refine pn_aload_n dL_brave_0 rfl rfl rfl ?_
  refine pn_iconst dL_brave_1 rfl ic_0 ?_
  refine pn_aload_n dL_brave_2 rfl rfl rfl ?_
  refine pn_iload_n dL_brave_3 rfl rfl rfl ?_
  refine pn_cxc (fun r9 h9 => pn_LKV dL_brave_4 lm_L_110 (ct_X10_brave Γ a1 σ r9 h9) (by decide) qt_0 qk_0 rfl rfl (Nat.le_of_ble_eq_true rfl)) rfl hc_L_brave (fun x1 σ1 => ?_)
  refine pn_i2l dL_brave_7 rfl ?_
  refine pn_last dL_brave_8 rfl qt_96 qk_96 (by decide) ?_
  refine pn_goto (pc' := 15) dL_brave_9 rfl ?_
  refine pn_iconst dL_brave_15 rfl ic_0 ?_
  exact pn_iretv dL_brave_16 rfl rfl rfl

set_option maxRecDepth 20000 in
set_option maxHeartbeats 4000000 in
theorem ct_L_brings (Γ : pn_G) (a1 : Int32) (σ : pn_S) : ∀ r, fL_brings a1 σ = some r → pn_CH Γ 8 mL_brings [.ref 0, .int a1, .ref 96] σ (pn_w3 r) := by
  refine pn_ofH (ls := [.ref 0, .int a1, .ref 96, .null]) (by decide) (pn_cat rfl) rfl (Nat.le_of_ble_eq_true rfl) ?_
  rw [fL_brings]
  refine pn_aload_n dL_brings_0 rfl rfl rfl ?_
  refine pn_iconst dL_brings_1 rfl ic_0 ?_
  refine pn_aload_n dL_brings_2 rfl rfl rfl ?_
  refine pn_iload_n dL_brings_3 rfl rfl rfl ?_
  refine pn_cxc (fun r9 h9 => pn_LKV dL_brings_4 lm_L_88 (ct_X10_brings Γ a1 σ r9 h9) (by decide) qt_0 qk_0 rfl rfl (Nat.le_of_ble_eq_true rfl)) rfl hc_L_brings (fun x1 σ1 => ?_)
  refine pn_i2l dL_brings_7 rfl ?_
  refine pn_last dL_brings_8 rfl qt_96 qk_96 (by decide) ?_
  refine pn_goto (pc' := 15) dL_brings_9 rfl ?_
  refine pn_iconst dL_brings_15 rfl ic_0 ?_
  exact pn_iretv dL_brings_16 rfl rfl rfl

set_option maxRecDepth 20000 in
set_option maxHeartbeats 4000000 in
theorem ct_L_buy (Γ : pn_G)  (σ : pn_S) : ∀ r, fL_buy  σ = some r → pn_CH Γ 7 mL_buy [.ref 0, .ref 96] σ (pn_w3 r) := by
  refine pn_ofH (ls := [.ref 0, .ref 96, .null]) (by decide) (pn_cat rfl) rfl (Nat.le_of_ble_eq_true rfl) ?_
  rw [fL_buy]
  refine pn_aload_n dL_buy_0 rfl rfl rfl ?_
  refine pn_iconst dL_buy_1 rfl ic_0 ?_
  refine pn_aload_n dL_buy_2 rfl rfl rfl ?_
  refine pn_cxc (fun r9 h9 => pn_LKV dL_buy_3 lm_L_42 (ct_X10_buy Γ σ r9 h9) (by decide) qt_0 qk_0 rfl rfl (Nat.le_of_ble_eq_true rfl)) rfl hc_L_buy (fun x1 σ1 => ?_)
  refine pn_i2l dL_buy_6 rfl ?_
  refine pn_last dL_buy_7 rfl qt_96 qk_96 (by decide) ?_
  refine pn_goto (pc' := 14) dL_buy_8 rfl ?_
  refine pn_iconst dL_buy_14 rfl ic_0 ?_
  exact pn_iretv dL_buy_15 rfl rfl rfl

set_option maxRecDepth 20000 in
set_option maxHeartbeats 4000000 in
theorem ct_L_calm (Γ : pn_G) (a1 : Int32) (σ : pn_S) : ∀ r, fL_calm a1 σ = some r → pn_CH Γ 8 mL_calm [.ref 0, .int a1, .ref 96] σ (pn_w3 r) := by
  refine pn_ofH (ls := [.ref 0, .int a1, .ref 96, .null]) (by decide) (pn_cat rfl) rfl (Nat.le_of_ble_eq_true rfl) ?_
  rw [fL_calm]
  refine pn_aload_n dL_calm_0 rfl rfl rfl ?_
  refine pn_iconst dL_calm_1 rfl ic_0 ?_
  refine pn_aload_n dL_calm_2 rfl rfl rfl ?_
  refine pn_iload_n dL_calm_3 rfl rfl rfl ?_
  refine pn_cxc (fun r9 h9 => pn_LKV dL_calm_4 lm_L_116 (ct_X10_calm Γ a1 σ r9 h9) (by decide) qt_0 qk_0 rfl rfl (Nat.le_of_ble_eq_true rfl)) rfl hc_L_calm (fun x1 σ1 => ?_)
  refine pn_i2l dL_calm_7 rfl ?_
  refine pn_last dL_calm_8 rfl qt_96 qk_96 (by decide) ?_
  refine pn_goto (pc' := 15) dL_calm_9 rfl ?_
  refine pn_iconst dL_calm_15 rfl ic_0 ?_
  exact pn_iretv dL_calm_16 rfl rfl rfl

set_option maxRecDepth 20000 in
set_option maxHeartbeats 4000000 in
theorem ct_L_can (Γ : pn_G) (a1 : Int32) (σ : pn_S) : ∀ r, fL_can a1 σ = some r → pn_CH Γ 7 mL_can [.ref 0, .int a1, .ref 96] σ (pn_w3 r) := by
  refine pn_ofH (ls := [.ref 0, .int a1, .ref 96, .null]) (by decide) (pn_cat rfl) rfl (Nat.le_of_ble_eq_true rfl) ?_
  rw [fL_can]
  refine pn_aload_n dL_can_0 rfl rfl rfl ?_
  refine pn_iconst dL_can_1 rfl ic_0 ?_
  refine pn_aload_n dL_can_2 rfl rfl rfl ?_
  refine pn_iload_n dL_can_3 rfl rfl rfl ?_
  refine pn_cxc (fun r9 h9 => pn_LKV dL_can_4 lm_L_84 (ct_X10_can Γ a1 σ r9 h9) (by decide) qt_0 qk_0 rfl rfl (Nat.le_of_ble_eq_true rfl)) rfl hc_L_can (fun x1 σ1 => ?_)
  refine pn_if_eq (tgt := 14) dL_can_7 rfl rfl (fun c2 => ?_) (fun c2 => ?_)
  · refine pn_lconst (x := (0 : Int32)) dL_can_14 rfl (by decide) ?_
    refine pn_last dL_can_15 rfl qt_96 qk_96 (by decide) ?_
    refine pn_goto (pc' := 22) dL_can_16 rfl ?_
    refine pn_iconst dL_can_22 rfl ic_0 ?_
    exact pn_iretv dL_can_23 rfl rfl rfl
  · refine pn_lconst (x := (1 : Int32)) dL_can_10 rfl (by decide) ?_
    refine pn_goto (pc' := 15) dL_can_11 rfl ?_
    refine pn_last dL_can_15 rfl qt_96 qk_96 (by decide) ?_
    refine pn_goto (pc' := 22) dL_can_16 rfl ?_
    refine pn_iconst dL_can_22 rfl ic_0 ?_
    exact pn_iretv dL_can_23 rfl rfl rfl

set_option maxRecDepth 20000 in
set_option maxHeartbeats 4000000 in
theorem ct_L_comes (Γ : pn_G) (a1 : Int32) (σ : pn_S) : ∀ r, fL_comes a1 σ = some r → pn_CH Γ 7 mL_comes [.ref 0, .int a1, .ref 96] σ (pn_w3 r) := by
  refine pn_ofH (ls := [.ref 0, .int a1, .ref 96, .null]) (by decide) (pn_cat rfl) rfl (Nat.le_of_ble_eq_true rfl) ?_
  rw [fL_comes]
  refine pn_aload_n dL_comes_0 rfl rfl rfl ?_
  refine pn_iconst dL_comes_1 rfl ic_0 ?_
  refine pn_aload_n dL_comes_2 rfl rfl rfl ?_
  refine pn_iload_n dL_comes_3 rfl rfl rfl ?_
  refine pn_cxc (fun r9 h9 => pn_LKV dL_comes_4 lm_L_60 (ct_X10_comes Γ a1 σ r9 h9) (by decide) qt_0 qk_0 rfl rfl (Nat.le_of_ble_eq_true rfl)) rfl hc_L_comes (fun x1 σ1 => ?_)
  refine pn_i2l dL_comes_7 rfl ?_
  refine pn_last dL_comes_8 rfl qt_96 qk_96 (by decide) ?_
  refine pn_goto (pc' := 15) dL_comes_9 rfl ?_
  refine pn_iconst dL_comes_15 rfl ic_0 ?_
  exact pn_iretv dL_comes_16 rfl rfl rfl

set_option maxRecDepth 20000 in
set_option maxHeartbeats 4000000 in
theorem ct_L_feud (Γ : pn_G) (a1 : Int32) (a2 : Int32) (σ : pn_S) : ∀ r, fL_feud a1 a2 σ = some r → pn_CH Γ 5 mL_feud [.ref 0, .int a1, .int a2, .ref 96] σ (pn_w3 r) := by
  refine pn_ofH (ls := [.ref 0, .int a1, .int a2, .ref 96, .null]) (by decide) (pn_cat rfl) rfl (Nat.le_of_ble_eq_true rfl) ?_
  rw [fL_feud]
  refine pn_aload_n dL_feud_0 rfl rfl rfl ?_
  refine pn_iconst dL_feud_1 rfl ic_0 ?_
  refine pn_aload_n dL_feud_2 rfl rfl rfl ?_
  refine pn_iload_n dL_feud_3 rfl rfl rfl ?_
  refine pn_iload_n dL_feud_4 rfl rfl rfl ?_
  refine pn_cxc (fun r9 h9 => pn_LKV dL_feud_5 lm_L_45 (ct_X10_feud Γ a1 a2 σ r9 h9) (by decide) qt_0 qk_0 rfl rfl (Nat.le_of_ble_eq_true rfl)) rfl hc_L_feud (fun x1 σ1 => ?_)
  refine pn_i2l dL_feud_8 rfl ?_
  refine pn_last dL_feud_9 rfl qt_96 qk_96 (by decide) ?_
  refine pn_goto (pc' := 21) dL_feud_10 rfl ?_
  refine pn_iconst dL_feud_21 rfl ic_0 ?_
  exact pn_iretv dL_feud_22 rfl rfl rfl

set_option maxRecDepth 20000 in
set_option maxHeartbeats 4000000 in
theorem ct_L_feuded (Γ : pn_G) (a1 : Int32) (σ : pn_S) : ∀ r, fL_feuded a1 σ = some r → pn_CH Γ 7 mL_feuded [.ref 0, .int a1, .ref 96] σ (pn_w3 r) := by
  refine pn_ofH (ls := [.ref 0, .int a1, .ref 96, .null]) (by decide) (pn_cat rfl) rfl (Nat.le_of_ble_eq_true rfl) ?_
  rw [fL_feuded]
  refine pn_aload_n dL_feuded_0 rfl rfl rfl ?_
  refine pn_iconst dL_feuded_1 rfl ic_0 ?_
  refine pn_aload_n dL_feuded_2 rfl rfl rfl ?_
  refine pn_iload_n dL_feuded_3 rfl rfl rfl ?_
  refine pn_cxc (fun r9 h9 => pn_LKV dL_feuded_4 lm_L_101 (ct_X10_feuded Γ a1 σ r9 h9) (by decide) qt_0 qk_0 rfl rfl (Nat.le_of_ble_eq_true rfl)) rfl hc_L_feuded (fun x1 σ1 => ?_)
  refine pn_i2l dL_feuded_7 rfl ?_
  refine pn_last dL_feuded_8 rfl qt_96 qk_96 (by decide) ?_
  refine pn_goto (pc' := 15) dL_feuded_9 rfl ?_
  refine pn_iconst dL_feuded_15 rfl ic_0 ?_
  exact pn_iretv dL_feuded_16 rfl rfl rfl

set_option maxRecDepth 20000 in
set_option maxHeartbeats 4000000 in
theorem ct_L_fewest (Γ : pn_G) (a1 : Int32) (a2 : Int32) (σ : pn_S) : ∀ r, fL_fewest a1 a2 σ = some r → pn_CH Γ 6 mL_fewest [.ref 0, .int a1, .int a2, .ref 96] σ (pn_w3 r) := by
  refine pn_ofH (ls := [.ref 0, .int a1, .int a2, .ref 96, .null]) (by decide) (pn_cat rfl) rfl (Nat.le_of_ble_eq_true rfl) ?_
  rw [fL_fewest]
  refine pn_aload_n dL_fewest_0 rfl rfl rfl ?_
  refine pn_iconst dL_fewest_1 rfl ic_0 ?_
  refine pn_aload_n dL_fewest_2 rfl rfl rfl ?_
  refine pn_iload_n dL_fewest_3 rfl rfl rfl ?_
  refine pn_iload_n dL_fewest_4 rfl rfl rfl ?_
  refine pn_cxc (fun r9 h9 => pn_LKV dL_fewest_5 lm_L_72 (ct_X10_fewest Γ a1 a2 σ r9 h9) (by decide) qt_0 qk_0 rfl rfl (Nat.le_of_ble_eq_true rfl)) rfl hc_L_fewest (fun x1 σ1 => ?_)
  refine pn_i2l dL_fewest_8 rfl ?_
  refine pn_last dL_fewest_9 rfl qt_96 qk_96 (by decide) ?_
  refine pn_goto (pc' := 21) dL_fewest_10 rfl ?_
  refine pn_iconst dL_fewest_21 rfl ic_0 ?_
  exact pn_iretv dL_fewest_22 rfl rfl rfl

set_option maxRecDepth 20000 in
set_option maxHeartbeats 4000000 in
theorem ct_L_give (Γ : pn_G) (a1 : Int32) (a2 : Int32) (σ : pn_S) : ∀ r, fL_give a1 a2 σ = some r → pn_CH Γ 4 mL_give [.ref 0, .int a1, .int a2, .ref 96] σ (pn_w3 r) := by
  refine pn_ofH (ls := [.ref 0, .int a1, .int a2, .ref 96, .null]) (by decide) (pn_cat rfl) rfl (Nat.le_of_ble_eq_true rfl) ?_
  rw [fL_give]
  refine pn_aload_n dL_give_0 rfl rfl rfl ?_
  refine pn_iconst dL_give_1 rfl ic_0 ?_
  refine pn_aload_n dL_give_2 rfl rfl rfl ?_
  refine pn_iload_n dL_give_3 rfl rfl rfl ?_
  refine pn_iload_n dL_give_4 rfl rfl rfl ?_
  refine pn_cxc (fun r9 h9 => pn_LKV dL_give_5 lm_L_54 (ct_X10_give Γ a1 a2 σ r9 h9) (by decide) qt_0 qk_0 rfl rfl (Nat.le_of_ble_eq_true rfl)) rfl hc_L_give (fun x1 σ1 => ?_)
  refine pn_i2l dL_give_8 rfl ?_
  refine pn_last dL_give_9 rfl qt_96 qk_96 (by decide) ?_
  refine pn_goto (pc' := 21) dL_give_10 rfl ?_
  refine pn_iconst dL_give_21 rfl ic_0 ?_
  exact pn_iretv dL_give_22 rfl rfl rfl

set_option maxRecDepth 20000 in
set_option maxHeartbeats 4000000 in
theorem ct_L_heard (Γ : pn_G) (a1 : Int32) (a2 : Int32) (σ : pn_S) : ∀ r, fL_heard a1 a2 σ = some r → pn_CH Γ 7 mL_heard [.ref 0, .int a1, .int a2, .ref 96] σ (pn_w3 r) := by
  refine pn_ofH (ls := [.ref 0, .int a1, .int a2, .ref 96, .null]) (by decide) (pn_cat rfl) rfl (Nat.le_of_ble_eq_true rfl) ?_
  rw [fL_heard]
  refine pn_aload_n dL_heard_0 rfl rfl rfl ?_
  refine pn_iconst dL_heard_1 rfl ic_0 ?_
  refine pn_aload_n dL_heard_2 rfl rfl rfl ?_
  refine pn_iload_n dL_heard_3 rfl rfl rfl ?_
  refine pn_iload_n dL_heard_4 rfl rfl rfl ?_
  refine pn_cxc (fun r9 h9 => pn_LKV dL_heard_5 lm_L_94 (ct_X10_heard Γ a1 a2 σ r9 h9) (by decide) qt_0 qk_0 rfl rfl (Nat.le_of_ble_eq_true rfl)) rfl hc_L_heard (fun x1 σ1 => ?_)
  refine pn_i2l dL_heard_8 rfl ?_
  refine pn_last dL_heard_9 rfl qt_96 qk_96 (by decide) ?_
  refine pn_goto (pc' := 21) dL_heard_10 rfl ?_
  refine pn_iconst dL_heard_21 rfl ic_0 ?_
  exact pn_iretv dL_heard_22 rfl rfl rfl

set_option maxRecDepth 20000 in
set_option maxHeartbeats 4000000 in
theorem ct_L_keep (Γ : pn_G) (a1 : Int32) (σ : pn_S) : ∀ r, fL_keep a1 σ = some r → pn_CH Γ 7 mL_keep [.ref 0, .int a1, .ref 96] σ (pn_w3 r) := by
  refine pn_ofH (ls := [.ref 0, .int a1, .ref 96, .null]) (by decide) (pn_cat rfl) rfl (Nat.le_of_ble_eq_true rfl) ?_
  rw [fL_keep]
  refine pn_aload_n dL_keep_0 rfl rfl rfl ?_
  refine pn_iconst dL_keep_1 rfl ic_0 ?_
  refine pn_aload_n dL_keep_2 rfl rfl rfl ?_
  refine pn_iload_n dL_keep_3 rfl rfl rfl ?_
  refine pn_cxc (fun r9 h9 => pn_LKV dL_keep_4 lm_L_75 (ct_X10_keep Γ a1 σ r9 h9) (by decide) qt_0 qk_0 rfl rfl (Nat.le_of_ble_eq_true rfl)) rfl hc_L_keep (fun x1 σ1 => ?_)
  refine pn_i2l dL_keep_7 rfl ?_
  refine pn_last dL_keep_8 rfl qt_96 qk_96 (by decide) ?_
  refine pn_goto (pc' := 15) dL_keep_9 rfl ?_
  refine pn_iconst dL_keep_15 rfl ic_0 ?_
  exact pn_iretv dL_keep_16 rfl rfl rfl

set_option maxRecDepth 20000 in
set_option maxHeartbeats 4000000 in
theorem ct_L_law (Γ : pn_G)  (σ : pn_S) : ∀ r, fL_law  σ = some r → pn_CH Γ 64 mL_law [.ref 0, .ref 96] σ (pn_w3 r) := by
  refine pn_ofH (ls := [.ref 0, .ref 96, .null]) (by decide) (pn_cat rfl) rfl (Nat.le_of_ble_eq_true rfl) ?_
  rw [fL_law]
  refine pn_aload_n dL_law_0 rfl rfl rfl ?_
  refine pn_iconst dL_law_1 rfl ic_0 ?_
  refine pn_aload_n dL_law_2 rfl rfl rfl ?_
  refine pn_cxc (fun r9 h9 => pn_LKV dL_law_3 lm_L_17 (ct_X10_law Γ σ r9 h9) (by decide) qt_0 qk_0 rfl rfl (Nat.le_of_ble_eq_true rfl)) rfl hc_L_law (fun x1 σ1 => ?_)
  refine pn_i2l dL_law_6 rfl ?_
  refine pn_last dL_law_7 rfl qt_96 qk_96 (by decide) ?_
  refine pn_goto (pc' := 14) dL_law_8 rfl ?_
  refine pn_iconst dL_law_14 rfl ic_0 ?_
  exact pn_iretv dL_law_15 rfl rfl rfl

set_option maxRecDepth 20000 in
set_option maxHeartbeats 4000000 in
theorem ct_L_led (Γ : pn_G) (a1 : Int32) (a2 : Int32) (σ : pn_S) : ∀ r, fL_led a1 a2 σ = some r → pn_CH Γ 4 mL_led [.ref 0, .int a1, .int a2, .ref 96] σ (pn_w3 r) := by
  refine pn_ofH (ls := [.ref 0, .int a1, .int a2, .ref 96, .null]) (by decide) (pn_cat rfl) rfl (Nat.le_of_ble_eq_true rfl) ?_
  rw [fL_led]
  refine pn_aload_n dL_led_0 rfl rfl rfl ?_
  refine pn_iconst dL_led_1 rfl ic_0 ?_
  refine pn_aload_n dL_led_2 rfl rfl rfl ?_
  refine pn_iload_n dL_led_3 rfl rfl rfl ?_
  refine pn_iload_n dL_led_4 rfl rfl rfl ?_
  refine pn_cxc (fun r9 h9 => pn_LKV dL_led_5 lm_L_128 (ct_X10_led Γ a1 a2 σ r9 h9) (by decide) qt_0 qk_0 rfl rfl (Nat.le_of_ble_eq_true rfl)) rfl hc_L_led (fun x1 σ1 => ?_)
  refine pn_i2l dL_led_8 rfl ?_
  refine pn_last dL_led_9 rfl qt_96 qk_96 (by decide) ?_
  refine pn_goto (pc' := 17) dL_led_10 rfl ?_
  refine pn_iconst dL_led_17 rfl ic_0 ?_
  exact pn_iretv dL_led_18 rfl rfl rfl

set_option maxRecDepth 20000 in
set_option maxHeartbeats 4000000 in
theorem ct_L_log (Γ : pn_G) (a1 : Int32) (a2 : Int32) (σ : pn_S) : ∀ r, fL_log a1 a2 σ = some r → pn_CH Γ 4 mL_log [.ref 0, .int a1, .int a2, .ref 96] σ (pn_w3 r) := by
  refine pn_ofH (ls := [.ref 0, .int a1, .int a2, .ref 96, .null]) (by decide) (pn_cat rfl) rfl (Nat.le_of_ble_eq_true rfl) ?_
  rw [fL_log]
  refine pn_aload_n dL_log_0 rfl rfl rfl ?_
  refine pn_iconst dL_log_1 rfl ic_0 ?_
  refine pn_aload_n dL_log_2 rfl rfl rfl ?_
  refine pn_iload_n dL_log_3 rfl rfl rfl ?_
  refine pn_iload_n dL_log_4 rfl rfl rfl ?_
  refine pn_cxc (fun r9 h9 => pn_LKV dL_log_5 lm_L_131 (ct_X10_log Γ a1 a2 σ r9 h9) (by decide) qt_0 qk_0 rfl rfl (Nat.le_of_ble_eq_true rfl)) rfl hc_L_log (fun x1 σ1 => ?_)
  refine pn_i2l dL_log_8 rfl ?_
  refine pn_last dL_log_9 rfl qt_96 qk_96 (by decide) ?_
  refine pn_goto (pc' := 17) dL_log_10 rfl ?_
  refine pn_iconst dL_log_17 rfl ic_0 ?_
  exact pn_iretv dL_log_18 rfl rfl rfl

set_option maxRecDepth 20000 in
set_option maxHeartbeats 4000000 in
theorem ct_L_loud (Γ : pn_G) (a1 : Int32) (σ : pn_S) : ∀ r, fL_loud a1 σ = some r → pn_CH Γ 7 mL_loud [.ref 0, .int a1, .ref 96] σ (pn_w3 r) := by
  refine pn_ofH (ls := [.ref 0, .int a1, .ref 96, .null]) (by decide) (pn_cat rfl) rfl (Nat.le_of_ble_eq_true rfl) ?_
  rw [fL_loud]
  refine pn_aload_n dL_loud_0 rfl rfl rfl ?_
  refine pn_iconst dL_loud_1 rfl ic_0 ?_
  refine pn_aload_n dL_loud_2 rfl rfl rfl ?_
  refine pn_iload_n dL_loud_3 rfl rfl rfl ?_
  refine pn_cxc (fun r9 h9 => pn_LKV dL_loud_4 lm_L_69 (ct_X10_loud Γ a1 σ r9 h9) (by decide) qt_0 qk_0 rfl rfl (Nat.le_of_ble_eq_true rfl)) rfl hc_L_loud (fun x1 σ1 => ?_)
  refine pn_i2l dL_loud_7 rfl ?_
  refine pn_last dL_loud_8 rfl qt_96 qk_96 (by decide) ?_
  refine pn_goto (pc' := 15) dL_loud_9 rfl ?_
  refine pn_iconst dL_loud_15 rfl ic_0 ?_
  exact pn_iretv dL_loud_16 rfl rfl rfl

set_option maxRecDepth 20000 in
set_option maxHeartbeats 4000000 in
theorem ct_L_name (Γ : pn_G) (a1 : Int32) (σ : pn_S) : ∀ r, fL_name a1 σ = some r → pn_CH Γ 4 mL_name [.ref 0, .int a1, .ref 96] σ (pn_w3 r) := by
  refine pn_ofH (ls := [.ref 0, .int a1, .ref 96, .null]) (by decide) (pn_cat rfl) rfl (Nat.le_of_ble_eq_true rfl) ?_
  rw [fL_name]
  refine pn_aload_n dL_name_0 rfl rfl rfl ?_
  refine pn_iconst dL_name_1 rfl ic_0 ?_
  refine pn_aload_n dL_name_2 rfl rfl rfl ?_
  refine pn_iload_n dL_name_3 rfl rfl rfl ?_
  refine pn_cxc (fun r9 h9 => pn_LKV dL_name_4 lm_L_32 (ct_X10_name Γ a1 σ r9 h9) (by decide) qt_0 qk_0 rfl rfl (Nat.le_of_ble_eq_true rfl)) rfl hc_L_name (fun x1 σ1 => ?_)
  refine pn_i2l dL_name_7 rfl ?_
  refine pn_last dL_name_8 rfl qt_96 qk_96 (by decide) ?_
  refine pn_goto (pc' := 18) dL_name_9 rfl ?_
  refine pn_iconst dL_name_18 rfl ic_0 ?_
  exact pn_iretv dL_name_19 rfl rfl rfl

set_option maxRecDepth 20000 in
set_option maxHeartbeats 4000000 in
theorem ct_L_nights (Γ : pn_G) (a1 : Int32) (σ : pn_S) : ∀ r, fL_nights a1 σ = some r → pn_CH Γ 7 mL_nights [.ref 0, .int a1, .ref 96] σ (pn_w3 r) := by
  refine pn_ofH (ls := [.ref 0, .int a1, .ref 96, .null]) (by decide) (pn_cat rfl) rfl (Nat.le_of_ble_eq_true rfl) ?_
  rw [fL_nights]
  refine pn_aload_n dL_nights_0 rfl rfl rfl ?_
  refine pn_iconst dL_nights_1 rfl ic_0 ?_
  refine pn_aload_n dL_nights_2 rfl rfl rfl ?_
  refine pn_iload_n dL_nights_3 rfl rfl rfl ?_
  refine pn_cxc (fun r9 h9 => pn_LKV dL_nights_4 lm_L_57 (ct_X10_nights Γ a1 σ r9 h9) (by decide) qt_0 qk_0 rfl rfl (Nat.le_of_ble_eq_true rfl)) rfl hc_L_nights (fun x1 σ1 => ?_)
  refine pn_i2l dL_nights_7 rfl ?_
  refine pn_last dL_nights_8 rfl qt_96 qk_96 (by decide) ?_
  refine pn_goto (pc' := 15) dL_nights_9 rfl ?_
  refine pn_iconst dL_nights_15 rfl ic_0 ?_
  exact pn_iretv dL_nights_16 rfl rfl rfl

set_option maxRecDepth 20000 in
set_option maxHeartbeats 4000000 in
theorem ct_L_person (Γ : pn_G) (a1 : Int32) (a2 : Int32) (σ : pn_S) : ∀ r, fL_person a1 a2 σ = some r → pn_CH Γ 4 mL_person [.ref 0, .int a1, .int a2, .ref 96] σ (pn_w3 r) := by
  refine pn_ofH (ls := [.ref 0, .int a1, .int a2, .ref 96, .null]) (by decide) (pn_cat rfl) rfl (Nat.le_of_ble_eq_true rfl) ?_
  rw [fL_person]
  refine pn_aload_n dL_person_0 rfl rfl rfl ?_
  refine pn_iconst dL_person_1 rfl ic_0 ?_
  refine pn_aload_n dL_person_2 rfl rfl rfl ?_
  refine pn_iload_n dL_person_3 rfl rfl rfl ?_
  refine pn_iload_n dL_person_4 rfl rfl rfl ?_
  refine pn_cxc (fun r9 h9 => pn_LKV dL_person_5 lm_L_20 (ct_X10_person Γ a1 a2 σ r9 h9) (by decide) qt_0 qk_0 rfl rfl (Nat.le_of_ble_eq_true rfl)) rfl hc_L_person (fun x1 σ1 => ?_)
  refine pn_i2l dL_person_8 rfl ?_
  refine pn_last dL_person_9 rfl qt_96 qk_96 (by decide) ?_
  refine pn_goto (pc' := 21) dL_person_10 rfl ?_
  refine pn_iconst dL_person_21 rfl ic_0 ?_
  exact pn_iretv dL_person_22 rfl rfl rfl

set_option maxRecDepth 20000 in
set_option maxHeartbeats 4000000 in
theorem ct_L_price (Γ : pn_G) (a1 : Int32) (σ : pn_S) : ∀ r, fL_price a1 σ = some r → pn_CH Γ 7 mL_price [.ref 0, .int a1, .ref 96] σ (pn_w3 r) := by
  refine pn_ofH (ls := [.ref 0, .int a1, .ref 96, .null]) (by decide) (pn_cat rfl) rfl (Nat.le_of_ble_eq_true rfl) ?_
  rw [fL_price]
  refine pn_aload_n dL_price_0 rfl rfl rfl ?_
  refine pn_iconst dL_price_1 rfl ic_0 ?_
  refine pn_aload_n dL_price_2 rfl rfl rfl ?_
  refine pn_iload_n dL_price_3 rfl rfl rfl ?_
  refine pn_cxc (fun r9 h9 => pn_LKV dL_price_4 lm_L_81 (ct_X10_price Γ a1 σ r9 h9) (by decide) qt_0 qk_0 rfl rfl (Nat.le_of_ble_eq_true rfl)) rfl hc_L_price (fun x1 σ1 => ?_)
  refine pn_i2l dL_price_7 rfl ?_
  refine pn_last dL_price_8 rfl qt_96 qk_96 (by decide) ?_
  refine pn_goto (pc' := 15) dL_price_9 rfl ?_
  refine pn_iconst dL_price_15 rfl ic_0 ?_
  exact pn_iretv dL_price_16 rfl rfl rfl

set_option maxRecDepth 20000 in
set_option maxHeartbeats 4000000 in
theorem ct_L_rests (Γ : pn_G) (a1 : Int32) (σ : pn_S) : ∀ r, fL_rests a1 σ = some r → pn_CH Γ 7 mL_rests [.ref 0, .int a1, .ref 96] σ (pn_w3 r) := by
  refine pn_ofH (ls := [.ref 0, .int a1, .ref 96, .null]) (by decide) (pn_cat rfl) rfl (Nat.le_of_ble_eq_true rfl) ?_
  rw [fL_rests]
  refine pn_aload_n dL_rests_0 rfl rfl rfl ?_
  refine pn_iconst dL_rests_1 rfl ic_0 ?_
  refine pn_aload_n dL_rests_2 rfl rfl rfl ?_
  refine pn_iload_n dL_rests_3 rfl rfl rfl ?_
  refine pn_cxc (fun r9 h9 => pn_LKV dL_rests_4 lm_L_91 (ct_X10_rests Γ a1 σ r9 h9) (by decide) qt_0 qk_0 rfl rfl (Nat.le_of_ble_eq_true rfl)) rfl hc_L_rests (fun x1 σ1 => ?_)
  refine pn_i2l dL_rests_7 rfl ?_
  refine pn_last dL_rests_8 rfl qt_96 qk_96 (by decide) ?_
  refine pn_goto (pc' := 15) dL_rests_9 rfl ?_
  refine pn_iconst dL_rests_15 rfl ic_0 ?_
  exact pn_iretv dL_rests_16 rfl rfl rfl

set_option maxRecDepth 20000 in
set_option maxHeartbeats 4000000 in
theorem ct_L_ring (Γ : pn_G) (a1 : Int32) (σ : pn_S) : ∀ r, fL_ring a1 σ = some r → pn_CH Γ 4 mL_ring [.ref 0, .int a1, .ref 96] σ (pn_w3 r) := by
  refine pn_ofH (ls := [.ref 0, .int a1, .ref 96, .null]) (by decide) (pn_cat rfl) rfl (Nat.le_of_ble_eq_true rfl) ?_
  rw [fL_ring]
  refine pn_aload_n dL_ring_0 rfl rfl rfl ?_
  refine pn_iconst dL_ring_1 rfl ic_0 ?_
  refine pn_aload_n dL_ring_2 rfl rfl rfl ?_
  refine pn_iload_n dL_ring_3 rfl rfl rfl ?_
  refine pn_cxc (fun r9 h9 => pn_LKV dL_ring_4 lm_L_104 (ct_X10_ring Γ a1 σ r9 h9) (by decide) qt_0 qk_0 rfl rfl (Nat.le_of_ble_eq_true rfl)) rfl hc_L_ring (fun x1 σ1 => ?_)
  refine pn_if_eq (tgt := 14) dL_ring_7 rfl rfl (fun c2 => ?_) (fun c2 => ?_)
  · refine pn_lconst (x := (0 : Int32)) dL_ring_14 rfl (by decide) ?_
    refine pn_last dL_ring_15 rfl qt_96 qk_96 (by decide) ?_
    refine pn_goto (pc' := 22) dL_ring_16 rfl ?_
    refine pn_iconst dL_ring_22 rfl ic_0 ?_
    exact pn_iretv dL_ring_23 rfl rfl rfl
  · refine pn_lconst (x := (1 : Int32)) dL_ring_10 rfl (by decide) ?_
    refine pn_goto (pc' := 15) dL_ring_11 rfl ?_
    refine pn_last dL_ring_15 rfl qt_96 qk_96 (by decide) ?_
    refine pn_goto (pc' := 22) dL_ring_16 rfl ?_
    refine pn_iconst dL_ring_22 rfl ic_0 ?_
    exact pn_iretv dL_ring_23 rfl rfl rfl

set_option maxRecDepth 20000 in
set_option maxHeartbeats 4000000 in
theorem ct_L_rounds (Γ : pn_G) (a1 : Int32) (σ : pn_S) : ∀ r, fL_rounds a1 σ = some r → pn_CH Γ 7 mL_rounds [.ref 0, .int a1, .ref 96] σ (pn_w3 r) := by
  refine pn_ofH (ls := [.ref 0, .int a1, .ref 96, .null]) (by decide) (pn_cat rfl) rfl (Nat.le_of_ble_eq_true rfl) ?_
  rw [fL_rounds]
  refine pn_aload_n dL_rounds_0 rfl rfl rfl ?_
  refine pn_iconst dL_rounds_1 rfl ic_0 ?_
  refine pn_aload_n dL_rounds_2 rfl rfl rfl ?_
  refine pn_iload_n dL_rounds_3 rfl rfl rfl ?_
  refine pn_cxc (fun r9 h9 => pn_LKV dL_rounds_4 lm_L_63 (ct_X10_rounds Γ a1 σ r9 h9) (by decide) qt_0 qk_0 rfl rfl (Nat.le_of_ble_eq_true rfl)) rfl hc_L_rounds (fun x1 σ1 => ?_)
  refine pn_i2l dL_rounds_7 rfl ?_
  refine pn_last dL_rounds_8 rfl qt_96 qk_96 (by decide) ?_
  refine pn_goto (pc' := 15) dL_rounds_9 rfl ?_
  refine pn_iconst dL_rounds_15 rfl ic_0 ?_
  exact pn_iretv dL_rounds_16 rfl rfl rfl

set_option maxRecDepth 20000 in
set_option maxHeartbeats 4000000 in
theorem ct_L_share (Γ : pn_G) (a1 : Int32) (a2 : Int32) (σ : pn_S) : ∀ r, fL_share a1 a2 σ = some r → pn_CH Γ 7 mL_share [.ref 0, .int a1, .int a2, .ref 96] σ (pn_w3 r) := by
  refine pn_ofH (ls := [.ref 0, .int a1, .int a2, .ref 96, .null]) (by decide) (pn_cat rfl) rfl (Nat.le_of_ble_eq_true rfl) ?_
  rw [fL_share]
  refine pn_aload_n dL_share_0 rfl rfl rfl ?_
  refine pn_iconst dL_share_1 rfl ic_0 ?_
  refine pn_aload_n dL_share_2 rfl rfl rfl ?_
  refine pn_iload_n dL_share_3 rfl rfl rfl ?_
  refine pn_iload_n dL_share_4 rfl rfl rfl ?_
  refine pn_cxc (fun r9 h9 => pn_LKV dL_share_5 lm_L_119 (ct_X10_share Γ a1 a2 σ r9 h9) (by decide) qt_0 qk_0 rfl rfl (Nat.le_of_ble_eq_true rfl)) rfl hc_L_share (fun x1 σ1 => ?_)
  refine pn_i2l dL_share_8 rfl ?_
  refine pn_last dL_share_9 rfl qt_96 qk_96 (by decide) ?_
  refine pn_goto (pc' := 21) dL_share_10 rfl ?_
  refine pn_iconst dL_share_21 rfl ic_0 ?_
  exact pn_iretv dL_share_22 rfl rfl rfl

set_option maxRecDepth 20000 in
set_option maxHeartbeats 4000000 in
theorem ct_L_span (Γ : pn_G) (a1 : Int32) (a2 : Int32) (σ : pn_S) : ∀ r, fL_span a1 a2 σ = some r → pn_CH Γ 8 mL_span [.ref 0, .int a1, .int a2, .ref 96] σ (pn_w3 r) := by
  refine pn_ofH (ls := [.ref 0, .int a1, .int a2, .ref 96, .null]) (by decide) (pn_cat rfl) rfl (Nat.le_of_ble_eq_true rfl) ?_
  rw [fL_span]
  refine pn_aload_n dL_span_0 rfl rfl rfl ?_
  refine pn_iconst dL_span_1 rfl ic_0 ?_
  refine pn_aload_n dL_span_2 rfl rfl rfl ?_
  refine pn_iload_n dL_span_3 rfl rfl rfl ?_
  refine pn_iload_n dL_span_4 rfl rfl rfl ?_
  refine pn_cxc (fun r9 h9 => pn_LKV dL_span_5 lm_L_125 (ct_X10_span Γ a1 a2 σ r9 h9) (by decide) qt_0 qk_0 rfl rfl (Nat.le_of_ble_eq_true rfl)) rfl hc_L_span (fun x1 σ1 => ?_)
  refine pn_i2l dL_span_8 rfl ?_
  refine pn_last dL_span_9 rfl qt_96 qk_96 (by decide) ?_
  refine pn_goto (pc' := 17) dL_span_10 rfl ?_
  refine pn_iconst dL_span_17 rfl ic_0 ?_
  exact pn_iretv dL_span_18 rfl rfl rfl

set_option maxRecDepth 20000 in
set_option maxHeartbeats 4000000 in
theorem ct_L_spent (Γ : pn_G) (a1 : Int32) (a2 : Int32) (σ : pn_S) : ∀ r, fL_spent a1 a2 σ = some r → pn_CH Γ 8 mL_spent [.ref 0, .int a1, .int a2, .ref 96] σ (pn_w3 r) := by
  refine pn_ofH (ls := [.ref 0, .int a1, .int a2, .ref 96, .null]) (by decide) (pn_cat rfl) rfl (Nat.le_of_ble_eq_true rfl) ?_
  rw [fL_spent]
  refine pn_aload_n dL_spent_0 rfl rfl rfl ?_
  refine pn_iconst dL_spent_1 rfl ic_0 ?_
  refine pn_aload_n dL_spent_2 rfl rfl rfl ?_
  refine pn_iload_n dL_spent_3 rfl rfl rfl ?_
  refine pn_iload_n dL_spent_4 rfl rfl rfl ?_
  refine pn_cxc (fun r9 h9 => pn_LKV dL_spent_5 lm_L_113 (ct_X10_spent Γ a1 a2 σ r9 h9) (by decide) qt_0 qk_0 rfl rfl (Nat.le_of_ble_eq_true rfl)) rfl hc_L_spent (fun x1 σ1 => ?_)
  refine pn_i2l dL_spent_8 rfl ?_
  refine pn_last dL_spent_9 rfl qt_96 qk_96 (by decide) ?_
  refine pn_goto (pc' := 21) dL_spent_10 rfl ?_
  refine pn_iconst dL_spent_21 rfl ic_0 ?_
  exact pn_iretv dL_spent_22 rfl rfl rfl

set_option maxRecDepth 20000 in
set_option maxHeartbeats 4000000 in
theorem ct_L_teach (Γ : pn_G) (a1 : Int32) (a2 : Int32) (σ : pn_S) : ∀ r, fL_teach a1 a2 σ = some r → pn_CH Γ 4 mL_teach [.ref 0, .int a1, .int a2, .ref 96] σ (pn_w3 r) := by
  refine pn_ofH (ls := [.ref 0, .int a1, .int a2, .ref 96, .null]) (by decide) (pn_cat rfl) rfl (Nat.le_of_ble_eq_true rfl) ?_
  rw [fL_teach]
  refine pn_aload_n dL_teach_0 rfl rfl rfl ?_
  refine pn_iconst dL_teach_1 rfl ic_0 ?_
  refine pn_aload_n dL_teach_2 rfl rfl rfl ?_
  refine pn_iload_n dL_teach_3 rfl rfl rfl ?_
  refine pn_iload_n dL_teach_4 rfl rfl rfl ?_
  refine pn_cxc (fun r9 h9 => pn_LKV dL_teach_5 lm_L_48 (ct_X10_teach Γ a1 a2 σ r9 h9) (by decide) qt_0 qk_0 rfl rfl (Nat.le_of_ble_eq_true rfl)) rfl hc_L_teach (fun x1 σ1 => ?_)
  refine pn_i2l dL_teach_8 rfl ?_
  refine pn_last dL_teach_9 rfl qt_96 qk_96 (by decide) ?_
  refine pn_goto (pc' := 21) dL_teach_10 rfl ?_
  refine pn_iconst dL_teach_21 rfl ic_0 ?_
  exact pn_iretv dL_teach_22 rfl rfl rfl

set_option maxRecDepth 20000 in
set_option maxHeartbeats 4000000 in
theorem ct_L_tips (Γ : pn_G) (a1 : Int32) (σ : pn_S) : ∀ r, fL_tips a1 σ = some r → pn_CH Γ 7 mL_tips [.ref 0, .int a1, .ref 96] σ (pn_w3 r) := by
  refine pn_ofH (ls := [.ref 0, .int a1, .ref 96, .null]) (by decide) (pn_cat rfl) rfl (Nat.le_of_ble_eq_true rfl) ?_
  rw [fL_tips]
  refine pn_aload_n dL_tips_0 rfl rfl rfl ?_
  refine pn_iconst dL_tips_1 rfl ic_0 ?_
  refine pn_aload_n dL_tips_2 rfl rfl rfl ?_
  refine pn_iload_n dL_tips_3 rfl rfl rfl ?_
  refine pn_cxc (fun r9 h9 => pn_LKV dL_tips_4 lm_L_78 (ct_X10_tips Γ a1 σ r9 h9) (by decide) qt_0 qk_0 rfl rfl (Nat.le_of_ble_eq_true rfl)) rfl hc_L_tips (fun x1 σ1 => ?_)
  refine pn_i2l dL_tips_7 rfl ?_
  refine pn_last dL_tips_8 rfl qt_96 qk_96 (by decide) ?_
  refine pn_goto (pc' := 15) dL_tips_9 rfl ?_
  refine pn_iconst dL_tips_15 rfl ic_0 ?_
  exact pn_iretv dL_tips_16 rfl rfl rfl

set_option maxRecDepth 20000 in
set_option maxHeartbeats 4000000 in
theorem ct_L_trial (Γ : pn_G) (a1 : Int32) (a2 : Int32) (σ : pn_S) : ∀ r, fL_trial a1 a2 σ = some r → pn_CH Γ 8 mL_trial [.ref 0, .int a1, .int a2, .ref 96] σ (pn_w3 r) := by
  refine pn_ofH (ls := [.ref 0, .int a1, .int a2, .ref 96, .null]) (by decide) (pn_cat rfl) rfl (Nat.le_of_ble_eq_true rfl) ?_
  rw [fL_trial]
  refine pn_aload_n dL_trial_0 rfl rfl rfl ?_
  refine pn_iconst dL_trial_1 rfl ic_0 ?_
  refine pn_aload_n dL_trial_2 rfl rfl rfl ?_
  refine pn_iload_n dL_trial_3 rfl rfl rfl ?_
  refine pn_iload_n dL_trial_4 rfl rfl rfl ?_
  refine pn_cxc (fun r9 h9 => pn_LKV dL_trial_5 lm_L_122 (ct_X10_trial Γ a1 a2 σ r9 h9) (by decide) qt_0 qk_0 rfl rfl (Nat.le_of_ble_eq_true rfl)) rfl hc_L_trial (fun x1 σ1 => ?_)
  refine pn_i2l dL_trial_8 rfl ?_
  refine pn_last dL_trial_9 rfl qt_96 qk_96 (by decide) ?_
  refine pn_goto (pc' := 17) dL_trial_10 rfl ?_
  refine pn_iconst dL_trial_17 rfl ic_0 ?_
  exact pn_iretv dL_trial_18 rfl rfl rfl

set_option maxRecDepth 20000 in
set_option maxHeartbeats 4000000 in
theorem ct_L_village (Γ : pn_G)  (σ : pn_S) : ∀ r, fL_village  σ = some r → pn_CH Γ 64 mL_village [.ref 0, .ref 96] σ (pn_w3 r) := by
  refine pn_ofH (ls := [.ref 0, .ref 96, .null]) (by decide) (pn_cat rfl) rfl (Nat.le_of_ble_eq_true rfl) ?_
  rw [fL_village]
  refine pn_aload_n dL_village_0 rfl rfl rfl ?_
  refine pn_iconst dL_village_1 rfl ic_0 ?_
  refine pn_aload_n dL_village_2 rfl rfl rfl ?_
  refine pn_cxc (fun r9 h9 => pn_LKV dL_village_3 lm_L_7 (ct_X10_village Γ σ r9 h9) (by decide) qt_0 qk_0 rfl rfl (Nat.le_of_ble_eq_true rfl)) rfl hc_L_village (fun x1 σ1 => ?_)
  refine pn_i2l dL_village_6 rfl ?_
  refine pn_last dL_village_7 rfl qt_96 qk_96 (by decide) ?_
  refine pn_goto (pc' := 17) dL_village_8 rfl ?_
  refine pn_iconst dL_village_17 rfl ic_0 ?_
  exact pn_iretv dL_village_18 rfl rfl rfl

set_option maxRecDepth 20000 in
set_option maxHeartbeats 4000000 in
theorem ct_L_watched (Γ : pn_G) (a1 : Int32) (σ : pn_S) : ∀ r, fL_watched a1 σ = some r → pn_CH Γ 7 mL_watched [.ref 0, .int a1, .ref 96] σ (pn_w3 r) := by
  refine pn_ofH (ls := [.ref 0, .int a1, .ref 96, .null]) (by decide) (pn_cat rfl) rfl (Nat.le_of_ble_eq_true rfl) ?_
  rw [fL_watched]
  refine pn_aload_n dL_watched_0 rfl rfl rfl ?_
  refine pn_iconst dL_watched_1 rfl ic_0 ?_
  refine pn_aload_n dL_watched_2 rfl rfl rfl ?_
  refine pn_iload_n dL_watched_3 rfl rfl rfl ?_
  refine pn_cxc (fun r9 h9 => pn_LKV dL_watched_4 lm_L_107 (ct_X10_watched Γ a1 σ r9 h9) (by decide) qt_0 qk_0 rfl rfl (Nat.le_of_ble_eq_true rfl)) rfl hc_L_watched (fun x1 σ1 => ?_)
  refine pn_i2l dL_watched_7 rfl ?_
  refine pn_last dL_watched_8 rfl qt_96 qk_96 (by decide) ?_
  refine pn_goto (pc' := 15) dL_watched_9 rfl ?_
  refine pn_iconst dL_watched_15 rfl ic_0 ?_
  exact pn_iretv dL_watched_16 rfl rfl rfl

set_option maxRecDepth 20000 in
set_option maxHeartbeats 4000000 in
theorem ct_L_when (Γ : pn_G) (a1 : Int32) (a2 : Int32) (σ : pn_S) : ∀ r, fL_when a1 a2 σ = some r → pn_CH Γ 7 mL_when [.ref 0, .int a1, .int a2, .ref 96] σ (pn_w3 r) := by
  refine pn_ofH (ls := [.ref 0, .int a1, .int a2, .ref 96, .null]) (by decide) (pn_cat rfl) rfl (Nat.le_of_ble_eq_true rfl) ?_
  rw [fL_when]
  refine pn_aload_n dL_when_0 rfl rfl rfl ?_
  refine pn_iconst dL_when_1 rfl ic_0 ?_
  refine pn_aload_n dL_when_2 rfl rfl rfl ?_
  refine pn_iload_n dL_when_3 rfl rfl rfl ?_
  refine pn_iload_n dL_when_4 rfl rfl rfl ?_
  refine pn_cxc (fun r9 h9 => pn_LKV dL_when_5 lm_L_66 (ct_X10_when Γ a1 a2 σ r9 h9) (by decide) qt_0 qk_0 rfl rfl (Nat.le_of_ble_eq_true rfl)) rfl hc_L_when (fun x1 σ1 => ?_)
  refine pn_i2l dL_when_8 rfl ?_
  refine pn_last dL_when_9 rfl qt_96 qk_96 (by decide) ?_
  refine pn_goto (pc' := 21) dL_when_10 rfl ?_
  refine pn_iconst dL_when_21 rfl ic_0 ?_
  exact pn_iretv dL_when_22 rfl rfl rfl

set_option maxRecDepth 20000 in
set_option maxHeartbeats 4000000 in
theorem ct_L_wrong (Γ : pn_G) (a1 : Int32) (a2 : Int32) (σ : pn_S) : ∀ r, fL_wrong a1 a2 σ = some r → pn_CH Γ 4 mL_wrong [.ref 0, .int a1, .int a2, .ref 96] σ (pn_w3 r) := by
  refine pn_ofH (ls := [.ref 0, .int a1, .int a2, .ref 96, .null]) (by decide) (pn_cat rfl) rfl (Nat.le_of_ble_eq_true rfl) ?_
  rw [fL_wrong]
  refine pn_aload_n dL_wrong_0 rfl rfl rfl ?_
  refine pn_iconst dL_wrong_1 rfl ic_0 ?_
  refine pn_aload_n dL_wrong_2 rfl rfl rfl ?_
  refine pn_iload_n dL_wrong_3 rfl rfl rfl ?_
  refine pn_iload_n dL_wrong_4 rfl rfl rfl ?_
  refine pn_cxc (fun r9 h9 => pn_LKV dL_wrong_5 lm_L_51 (ct_X10_wrong Γ a1 a2 σ r9 h9) (by decide) qt_0 qk_0 rfl rfl (Nat.le_of_ble_eq_true rfl)) rfl hc_L_wrong (fun x1 σ1 => ?_)
  refine pn_i2l dL_wrong_8 rfl ?_
  refine pn_last dL_wrong_9 rfl qt_96 qk_96 (by decide) ?_
  refine pn_goto (pc' := 21) dL_wrong_10 rfl ?_
  refine pn_iconst dL_wrong_21 rfl ic_0 ?_
  exact pn_iretv dL_wrong_22 rfl rfl rfl

set_option maxRecDepth 20000 in
set_option maxHeartbeats 4000000 in
theorem wL_law__2850 (Γ : pn_G) (L : Nat) (hL : (pn_sc Γ).2.1 = L) (xs : (Nat → Int32)) (hX : (pn_sc Γ).2.2 = xs) (rec23 : Int32 → pn_S → Option (Int32 × pn_S × Nat)) (hrec23 : ∀ (l4 : Int32) (σ : pn_S), pn_W9 Γ 65 mL_law_ pn_w3 23 [.ref 5000, .ref 0, .ref 85, .ref 96, .int l4, .null, .null] [] σ (rec23 l4 σ)) (l4 : Int32) (σ : pn_S) : pn_W9 Γ 65 mL_law_ pn_w3 2850 [.ref 5000, .ref 0, .ref 85, .ref 96, .int l4, .null, .null] [] σ (fL_law__2850 L xs rec23 l4 σ) := by
  rw [fL_law__2850]
  refine pn_iinc (ls' := [.ref 5000, .ref 0, .ref 85, .ref 96, .int (l4 + (6 : Int32)), .null, .null]) dL_law__2850 rfl (Nat.le_of_ble_eq_true rfl) rfl (congrArg (fun z => l4 + z) ic_6) rfl ?_
  refine pn_goto (pc' := 23) dL_law__2853 rfl ?_
  exact hrec23 (l4 + (6 : Int32)) σ

set_option maxRecDepth 20000 in
set_option maxHeartbeats 4000000 in
theorem wL_law__260 (Γ : pn_G) (L : Nat) (hL : (pn_sc Γ).2.1 = L) (xs : (Nat → Int32)) (hX : (pn_sc Γ).2.2 = xs) (rec23 : Int32 → pn_S → Option (Int32 × pn_S × Nat)) (hrec23 : ∀ (l4 : Int32) (σ : pn_S), pn_W9 Γ 65 mL_law_ pn_w3 23 [.ref 5000, .ref 0, .ref 85, .ref 96, .int l4, .null, .null] [] σ (rec23 l4 σ)) (l4 : Int32) (σ : pn_S) : pn_W9 Γ 65 mL_law_ pn_w3 260 [.ref 5000, .ref 0, .ref 85, .ref 96, .int l4, .null, .null] [] σ (fL_law__260 L xs rec23 l4 σ) := by
  rw [fL_law__260]
  refine pn_aload_n dL_law__260 rfl rfl rfl ?_
  refine pn_aload_n dL_law__261 rfl rfl rfl ?_
  refine pn_iload dL_law__262 rfl rfl ?_
  refine pn_iconst dL_law__264 rfl ic_1 ?_
  refine pn_iadd dL_law__265 rfl ?_
  refine pn_sld hL hX dL_law__266 rfl ?_
  refine pn_aload_n dL_law__267 rfl rfl rfl ?_
  refine pn_iload dL_law__268 rfl rfl ?_
  refine pn_iconst dL_law__270 rfl ic_2 ?_
  refine pn_iadd dL_law__271 rfl ?_
  refine pn_sld hL hX dL_law__272 rfl ?_
  refine pn_aload_n dL_law__273 rfl rfl rfl ?_
  refine pn_iload dL_law__274 rfl rfl ?_
  refine pn_iconst dL_law__276 rfl ic_3 ?_
  refine pn_iadd dL_law__277 rfl ?_
  refine pn_sld hL hX dL_law__278 rfl ?_
  refine pn_aload_n dL_law__279 rfl rfl rfl ?_
  refine pn_iload dL_law__280 rfl rfl ?_
  refine pn_iconst dL_law__282 rfl ic_4 ?_
  refine pn_iadd dL_law__283 rfl ?_
  refine pn_sld hL hX dL_law__284 rfl ?_
  refine pn_aload_n dL_law__285 rfl rfl rfl ?_
  refine pn_iload dL_law__286 rfl rfl ?_
  refine pn_iconst dL_law__288 rfl ic_5 ?_
  refine pn_iadd dL_law__289 rfl ?_
  refine pn_sld hL hX dL_law__290 rfl ?_
  refine pn_ci (fun r9 h9 => pn_LKV dL_law__291 lm_L_138 (ct_X10_feed Γ (xs (Int32.toNatClampNeg (l4 + (1 : Int32)))) (xs (Int32.toNatClampNeg (l4 + (2 : Int32)))) (xs (Int32.toNatClampNeg (l4 + (3 : Int32)))) (xs (Int32.toNatClampNeg (l4 + (4 : Int32)))) (xs (Int32.toNatClampNeg (l4 + (5 : Int32)))) σ r9 h9) (by decide) qt_0 qk_0 rfl rfl (Nat.le_of_ble_eq_true rfl)) rfl (fun x3 σ3 => ?_)
  refine pn_aload_n dL_law__294 rfl rfl rfl ?_
  refine pn_aload_n dL_law__295 rfl rfl rfl ?_
  refine pn_iload dL_law__296 rfl rfl ?_
  refine pn_iconst dL_law__298 rfl ic_1 ?_
  refine pn_iadd dL_law__299 rfl ?_
  refine pn_sld hL hX dL_law__300 rfl ?_
  refine pn_aload_n dL_law__301 rfl rfl rfl ?_
  refine pn_iload dL_law__302 rfl rfl ?_
  refine pn_iconst dL_law__304 rfl ic_2 ?_
  refine pn_iadd dL_law__305 rfl ?_
  refine pn_sld hL hX dL_law__306 rfl ?_
  refine pn_aload_n dL_law__307 rfl rfl rfl ?_
  refine pn_iload dL_law__308 rfl rfl ?_
  refine pn_iconst dL_law__310 rfl ic_3 ?_
  refine pn_iadd dL_law__311 rfl ?_
  refine pn_sld hL hX dL_law__312 rfl ?_
  refine pn_aload_n dL_law__313 rfl rfl rfl ?_
  refine pn_iload dL_law__314 rfl rfl ?_
  refine pn_iconst dL_law__316 rfl ic_4 ?_
  refine pn_iadd dL_law__317 rfl ?_
  refine pn_sld hL hX dL_law__318 rfl ?_
  refine pn_aload_n dL_law__319 rfl rfl rfl ?_
  refine pn_iload dL_law__320 rfl rfl ?_
  refine pn_iconst dL_law__322 rfl ic_5 ?_
  refine pn_iadd dL_law__323 rfl ?_
  refine pn_sld hL hX dL_law__324 rfl ?_
  refine pn_ci (fun r9 h9 => pn_LKV dL_law__325 lm_L_142 (ct_X11_feed Γ (xs (Int32.toNatClampNeg (l4 + (1 : Int32)))) (xs (Int32.toNatClampNeg (l4 + (2 : Int32)))) (xs (Int32.toNatClampNeg (l4 + (3 : Int32)))) (xs (Int32.toNatClampNeg (l4 + (4 : Int32)))) (xs (Int32.toNatClampNeg (l4 + (5 : Int32)))) σ3 r9 h9) (by decide) qt_85 qk_85 rfl rfl (Nat.le_of_ble_eq_true rfl)) rfl (fun x4 σ4 => ?_)
  refine pn_icmp_eq (tgt := 2850) dL_law__328 rfl rfl (fun c5 => ?_) (fun c5 => ?_)
  · exact wL_law__2850 Γ L hL xs hX (rec23) (hrec23) l4 σ4
  · refine pn_iconst dL_law__331 rfl ic_0 ?_
    exact pn_iretv dL_law__332 rfl rfl rfl

set_option maxRecDepth 20000 in
set_option maxHeartbeats 4000000 in
theorem wL_law__333 (Γ : pn_G) (L : Nat) (hL : (pn_sc Γ).2.1 = L) (xs : (Nat → Int32)) (hX : (pn_sc Γ).2.2 = xs) (rec23 : Int32 → pn_S → Option (Int32 × pn_S × Nat)) (hrec23 : ∀ (l4 : Int32) (σ : pn_S), pn_W9 Γ 65 mL_law_ pn_w3 23 [.ref 5000, .ref 0, .ref 85, .ref 96, .int l4, .null, .null] [] σ (rec23 l4 σ)) (l4 : Int32) (σ : pn_S) : pn_W9 Γ 65 mL_law_ pn_w3 333 [.ref 5000, .ref 0, .ref 85, .ref 96, .int l4, .null, .null] [] σ (fL_law__333 L xs rec23 l4 σ) := by
  rw [fL_law__333]
  refine pn_aload_n dL_law__333 rfl rfl rfl ?_
  refine pn_aload_n dL_law__334 rfl rfl rfl ?_
  refine pn_iload dL_law__335 rfl rfl ?_
  refine pn_iconst dL_law__337 rfl ic_1 ?_
  refine pn_iadd dL_law__338 rfl ?_
  refine pn_sld hL hX dL_law__339 rfl ?_
  refine pn_ci (fun r9 h9 => pn_LKV dL_law__340 lm_L_143 (ct_X10_end Γ (xs (Int32.toNatClampNeg (l4 + (1 : Int32)))) σ r9 h9) (by decide) qt_0 qk_0 rfl rfl (Nat.le_of_ble_eq_true rfl)) rfl (fun x7 σ7 => ?_)
  refine pn_aload_n dL_law__343 rfl rfl rfl ?_
  refine pn_aload_n dL_law__344 rfl rfl rfl ?_
  refine pn_iload dL_law__345 rfl rfl ?_
  refine pn_iconst dL_law__347 rfl ic_1 ?_
  refine pn_iadd dL_law__348 rfl ?_
  refine pn_sld hL hX dL_law__349 rfl ?_
  refine pn_ci (fun r9 h9 => pn_LKV dL_law__350 lm_L_146 (ct_X11_end Γ (xs (Int32.toNatClampNeg (l4 + (1 : Int32)))) σ7 r9 h9) (by decide) qt_85 qk_85 rfl rfl (Nat.le_of_ble_eq_true rfl)) rfl (fun x8 σ8 => ?_)
  refine pn_icmp_eq (tgt := 2850) dL_law__353 rfl rfl (fun c9 => ?_) (fun c9 => ?_)
  · exact wL_law__2850 Γ L hL xs hX (rec23) (hrec23) l4 σ8
  · refine pn_iconst dL_law__356 rfl ic_0 ?_
    exact pn_iretv dL_law__357 rfl rfl rfl

set_option maxRecDepth 20000 in
set_option maxHeartbeats 4000000 in
theorem wL_law__358 (Γ : pn_G) (L : Nat) (hL : (pn_sc Γ).2.1 = L) (xs : (Nat → Int32)) (hX : (pn_sc Γ).2.2 = xs) (rec23 : Int32 → pn_S → Option (Int32 × pn_S × Nat)) (hrec23 : ∀ (l4 : Int32) (σ : pn_S), pn_W9 Γ 65 mL_law_ pn_w3 23 [.ref 5000, .ref 0, .ref 85, .ref 96, .int l4, .null, .null] [] σ (rec23 l4 σ)) (l4 : Int32) (σ : pn_S) : pn_W9 Γ 65 mL_law_ pn_w3 358 [.ref 5000, .ref 0, .ref 85, .ref 96, .int l4, .null, .null] [] σ (fL_law__358 L xs rec23 l4 σ) := by
  rw [fL_law__358]
  refine pn_aload_n dL_law__358 rfl rfl rfl ?_
  refine pn_aload_n dL_law__359 rfl rfl rfl ?_
  refine pn_cw (fun r9 h9 => pn_LKH dL_law__360 lm_L_147 (ct_L_village Γ σ r9 h9) (by decide) rfl rfl (Nat.le_of_ble_eq_true rfl)) rfl (fun x11 σ11 => ?_)
  refine pn_istore (ls' := [.ref 5000, .ref 0, .ref 85, .ref 96, .int l4, .int x11, .null]) dL_law__363 rfl (Nat.le_of_ble_eq_true rfl) rfl ?_
  refine pn_aload_n dL_law__365 rfl rfl rfl ?_
  refine pn_ci (fun r9 h9 => pn_LKV dL_law__366 lm_L_152 (ct_X11_village Γ σ11 r9 h9) (by decide) qt_85 qk_85 rfl rfl (Nat.le_of_ble_eq_true rfl)) rfl (fun x12 σ12 => ?_)
  refine pn_istore (ls' := [.ref 5000, .ref 0, .ref 85, .ref 96, .int l4, .int x11, .int x12]) dL_law__369 rfl (Nat.le_of_ble_eq_true rfl) rfl ?_
  refine pn_aload_n dL_law__371 rfl rfl rfl ?_
  refine pn_cp (fun r9 h9 => pn_LKV dL_law__372 lm_L_153 (ct_X11_thrown Γ σ12 r9 h9) (by decide) qt_85 qk_85 rfl rfl (Nat.le_of_ble_eq_true rfl)) rfl (fun x13 => ?_)
  refine pn_iload dL_law__375 rfl rfl ?_
  refine pn_icmp_eq (tgt := 382) dL_law__377 rfl rfl (fun c14 => ?_) (fun c14 => ?_)
  · refine pn_iload dL_law__382 rfl rfl ?_
    refine pn_if_ne (tgt := 399) dL_law__384 rfl rfl (fun c15 => ?_) (fun c15 => ?_)
    · refine pn_aload_n dL_law__387 rfl rfl rfl ?_
      refine pn_iconst dL_law__388 rfl ic_0 ?_
      refine pn_lald dL_law__389 rfl qt_96 qk_96 (by decide) ?_
      refine pn_iload dL_law__390 rfl rfl ?_
      refine pn_i2l dL_law__392 rfl ?_
      refine pn_lcmp dL_law__393 rfl ?_
      refine pn_if_eq (tgt := 399) dL_law__394 rfl rfl (fun c16 => ?_) (fun c16 => ?_)
      · refine pn_goto (pc' := 2850) dL_law__399 rfl ?_
        exact pn_wk (pn_leC rfl (pn_leC rfl (pn_leC rfl (pn_leC rfl (pn_leC rfl (pn_leN (pn_leN pn_le0))))))) (wL_law__2850 Γ L hL xs hX (rec23) (hrec23) l4 σ12)
      · refine pn_iconst dL_law__397 rfl ic_0 ?_
        exact pn_iretv dL_law__398 rfl rfl rfl
    · refine pn_goto (pc' := 2850) dL_law__399 rfl ?_
      exact pn_wk (pn_leC rfl (pn_leC rfl (pn_leC rfl (pn_leC rfl (pn_leC rfl (pn_leN (pn_leN pn_le0))))))) (wL_law__2850 Γ L hL xs hX (rec23) (hrec23) l4 σ12)
  · refine pn_iconst dL_law__380 rfl ic_0 ?_
    exact pn_iretv dL_law__381 rfl rfl rfl

set_option maxRecDepth 20000 in
set_option maxHeartbeats 4000000 in
theorem wL_law__402 (Γ : pn_G) (L : Nat) (hL : (pn_sc Γ).2.1 = L) (xs : (Nat → Int32)) (hX : (pn_sc Γ).2.2 = xs) (rec23 : Int32 → pn_S → Option (Int32 × pn_S × Nat)) (hrec23 : ∀ (l4 : Int32) (σ : pn_S), pn_W9 Γ 65 mL_law_ pn_w3 23 [.ref 5000, .ref 0, .ref 85, .ref 96, .int l4, .null, .null] [] σ (rec23 l4 σ)) (l4 : Int32) (σ : pn_S) : pn_W9 Γ 65 mL_law_ pn_w3 402 [.ref 5000, .ref 0, .ref 85, .ref 96, .int l4, .null, .null] [] σ (fL_law__402 L xs rec23 l4 σ) := by
  rw [fL_law__402]
  refine pn_aload_n dL_law__402 rfl rfl rfl ?_
  refine pn_aload_n dL_law__403 rfl rfl rfl ?_
  refine pn_cw (fun r9 h9 => pn_LKH dL_law__404 lm_L_156 (ct_L_law Γ σ r9 h9) (by decide) rfl rfl (Nat.le_of_ble_eq_true rfl)) rfl (fun x18 σ18 => ?_)
  refine pn_istore (ls' := [.ref 5000, .ref 0, .ref 85, .ref 96, .int l4, .int x18, .null]) dL_law__407 rfl (Nat.le_of_ble_eq_true rfl) rfl ?_
  refine pn_aload_n dL_law__409 rfl rfl rfl ?_
  refine pn_ci (fun r9 h9 => pn_LKV dL_law__410 lm_L_158 (ct_X11_law Γ σ18 r9 h9) (by decide) qt_85 qk_85 rfl rfl (Nat.le_of_ble_eq_true rfl)) rfl (fun x19 σ19 => ?_)
  refine pn_istore (ls' := [.ref 5000, .ref 0, .ref 85, .ref 96, .int l4, .int x18, .int x19]) dL_law__413 rfl (Nat.le_of_ble_eq_true rfl) rfl ?_
  refine pn_aload_n dL_law__415 rfl rfl rfl ?_
  refine pn_cp (fun r9 h9 => pn_LKV dL_law__416 lm_L_153 (ct_X11_thrown Γ σ19 r9 h9) (by decide) qt_85 qk_85 rfl rfl (Nat.le_of_ble_eq_true rfl)) rfl (fun x20 => ?_)
  refine pn_iload dL_law__419 rfl rfl ?_
  refine pn_icmp_eq (tgt := 426) dL_law__421 rfl rfl (fun c21 => ?_) (fun c21 => ?_)
  · refine pn_iload dL_law__426 rfl rfl ?_
    refine pn_if_ne (tgt := 443) dL_law__428 rfl rfl (fun c22 => ?_) (fun c22 => ?_)
    · refine pn_aload_n dL_law__431 rfl rfl rfl ?_
      refine pn_iconst dL_law__432 rfl ic_0 ?_
      refine pn_lald dL_law__433 rfl qt_96 qk_96 (by decide) ?_
      refine pn_iload dL_law__434 rfl rfl ?_
      refine pn_i2l dL_law__436 rfl ?_
      refine pn_lcmp dL_law__437 rfl ?_
      refine pn_if_eq (tgt := 443) dL_law__438 rfl rfl (fun c23 => ?_) (fun c23 => ?_)
      · refine pn_goto (pc' := 2850) dL_law__443 rfl ?_
        exact pn_wk (pn_leC rfl (pn_leC rfl (pn_leC rfl (pn_leC rfl (pn_leC rfl (pn_leN (pn_leN pn_le0))))))) (wL_law__2850 Γ L hL xs hX (rec23) (hrec23) l4 σ19)
      · refine pn_iconst dL_law__441 rfl ic_0 ?_
        exact pn_iretv dL_law__442 rfl rfl rfl
    · refine pn_goto (pc' := 2850) dL_law__443 rfl ?_
      exact pn_wk (pn_leC rfl (pn_leC rfl (pn_leC rfl (pn_leC rfl (pn_leC rfl (pn_leN (pn_leN pn_le0))))))) (wL_law__2850 Γ L hL xs hX (rec23) (hrec23) l4 σ19)
  · refine pn_iconst dL_law__424 rfl ic_0 ?_
    exact pn_iretv dL_law__425 rfl rfl rfl

set_option maxRecDepth 20000 in
set_option maxHeartbeats 4000000 in
theorem wL_law__446 (Γ : pn_G) (L : Nat) (hL : (pn_sc Γ).2.1 = L) (xs : (Nat → Int32)) (hX : (pn_sc Γ).2.2 = xs) (rec23 : Int32 → pn_S → Option (Int32 × pn_S × Nat)) (hrec23 : ∀ (l4 : Int32) (σ : pn_S), pn_W9 Γ 65 mL_law_ pn_w3 23 [.ref 5000, .ref 0, .ref 85, .ref 96, .int l4, .null, .null] [] σ (rec23 l4 σ)) (l4 : Int32) (σ : pn_S) : pn_W9 Γ 65 mL_law_ pn_w3 446 [.ref 5000, .ref 0, .ref 85, .ref 96, .int l4, .null, .null] [] σ (fL_law__446 L xs rec23 l4 σ) := by
  rw [fL_law__446]
  refine pn_aload_n dL_law__446 rfl rfl rfl ?_
  refine pn_cp (fun r9 h9 => pn_LKV dL_law__447 lm_L_159 (ct_X10_fault Γ σ r9 h9) (by decide) qt_0 qk_0 rfl rfl (Nat.le_of_ble_eq_true rfl)) rfl (fun x25 => ?_)
  refine pn_aload_n dL_law__450 rfl rfl rfl ?_
  refine pn_ci (fun r9 h9 => pn_LKV dL_law__451 lm_L_162 (ct_X11_fault Γ σ r9 h9) (by decide) qt_85 qk_85 rfl rfl (Nat.le_of_ble_eq_true rfl)) rfl (fun x26 σ26 => ?_)
  refine pn_icmp_eq (tgt := 2850) dL_law__454 rfl rfl (fun c27 => ?_) (fun c27 => ?_)
  · exact wL_law__2850 Γ L hL xs hX (rec23) (hrec23) l4 σ26
  · refine pn_iconst dL_law__457 rfl ic_0 ?_
    exact pn_iretv dL_law__458 rfl rfl rfl

set_option maxRecDepth 20000 in
set_option maxHeartbeats 4000000 in
theorem wL_law__459 (Γ : pn_G) (L : Nat) (hL : (pn_sc Γ).2.1 = L) (xs : (Nat → Int32)) (hX : (pn_sc Γ).2.2 = xs) (rec23 : Int32 → pn_S → Option (Int32 × pn_S × Nat)) (hrec23 : ∀ (l4 : Int32) (σ : pn_S), pn_W9 Γ 65 mL_law_ pn_w3 23 [.ref 5000, .ref 0, .ref 85, .ref 96, .int l4, .null, .null] [] σ (rec23 l4 σ)) (l4 : Int32) (σ : pn_S) : pn_W9 Γ 65 mL_law_ pn_w3 459 [.ref 5000, .ref 0, .ref 85, .ref 96, .int l4, .null, .null] [] σ (fL_law__459 L xs rec23 l4 σ) := by
  rw [fL_law__459]
  refine pn_aload_n dL_law__459 rfl rfl rfl ?_
  refine pn_aload_n dL_law__460 rfl rfl rfl ?_
  refine pn_iload dL_law__461 rfl rfl ?_
  refine pn_iconst dL_law__463 rfl ic_1 ?_
  refine pn_iadd dL_law__464 rfl ?_
  refine pn_sld hL hX dL_law__465 rfl ?_
  refine pn_aload_n dL_law__466 rfl rfl rfl ?_
  refine pn_iload dL_law__467 rfl rfl ?_
  refine pn_iconst dL_law__469 rfl ic_2 ?_
  refine pn_iadd dL_law__470 rfl ?_
  refine pn_sld hL hX dL_law__471 rfl ?_
  refine pn_aload_n dL_law__472 rfl rfl rfl ?_
  refine pn_cw (fun r9 h9 => pn_LKH dL_law__473 lm_L_163 (ct_L_person Γ (xs (Int32.toNatClampNeg (l4 + (1 : Int32)))) (xs (Int32.toNatClampNeg (l4 + (2 : Int32)))) σ r9 h9) (by decide) rfl rfl (Nat.le_of_ble_eq_true rfl)) rfl (fun x29 σ29 => ?_)
  refine pn_istore (ls' := [.ref 5000, .ref 0, .ref 85, .ref 96, .int l4, .int x29, .null]) dL_law__476 rfl (Nat.le_of_ble_eq_true rfl) rfl ?_
  refine pn_aload_n dL_law__478 rfl rfl rfl ?_
  refine pn_aload_n dL_law__479 rfl rfl rfl ?_
  refine pn_iload dL_law__480 rfl rfl ?_
  refine pn_iconst dL_law__482 rfl ic_1 ?_
  refine pn_iadd dL_law__483 rfl ?_
  refine pn_sld hL hX dL_law__484 rfl ?_
  refine pn_aload_n dL_law__485 rfl rfl rfl ?_
  refine pn_iload dL_law__486 rfl rfl ?_
  refine pn_iconst dL_law__488 rfl ic_2 ?_
  refine pn_iadd dL_law__489 rfl ?_
  refine pn_sld hL hX dL_law__490 rfl ?_
  refine pn_ci (fun r9 h9 => pn_LKV dL_law__491 lm_L_166 (ct_X11_person Γ (xs (Int32.toNatClampNeg (l4 + (1 : Int32)))) (xs (Int32.toNatClampNeg (l4 + (2 : Int32)))) σ29 r9 h9) (by decide) qt_85 qk_85 rfl rfl (Nat.le_of_ble_eq_true rfl)) rfl (fun x30 σ30 => ?_)
  refine pn_istore (ls' := [.ref 5000, .ref 0, .ref 85, .ref 96, .int l4, .int x29, .int x30]) dL_law__494 rfl (Nat.le_of_ble_eq_true rfl) rfl ?_
  refine pn_aload_n dL_law__496 rfl rfl rfl ?_
  refine pn_cp (fun r9 h9 => pn_LKV dL_law__497 lm_L_153 (ct_X11_thrown Γ σ30 r9 h9) (by decide) qt_85 qk_85 rfl rfl (Nat.le_of_ble_eq_true rfl)) rfl (fun x31 => ?_)
  refine pn_iload dL_law__500 rfl rfl ?_
  refine pn_icmp_eq (tgt := 507) dL_law__502 rfl rfl (fun c32 => ?_) (fun c32 => ?_)
  · refine pn_iload dL_law__507 rfl rfl ?_
    refine pn_if_ne (tgt := 524) dL_law__509 rfl rfl (fun c33 => ?_) (fun c33 => ?_)
    · refine pn_aload_n dL_law__512 rfl rfl rfl ?_
      refine pn_iconst dL_law__513 rfl ic_0 ?_
      refine pn_lald dL_law__514 rfl qt_96 qk_96 (by decide) ?_
      refine pn_iload dL_law__515 rfl rfl ?_
      refine pn_i2l dL_law__517 rfl ?_
      refine pn_lcmp dL_law__518 rfl ?_
      refine pn_if_eq (tgt := 524) dL_law__519 rfl rfl (fun c34 => ?_) (fun c34 => ?_)
      · refine pn_goto (pc' := 2850) dL_law__524 rfl ?_
        exact pn_wk (pn_leC rfl (pn_leC rfl (pn_leC rfl (pn_leC rfl (pn_leC rfl (pn_leN (pn_leN pn_le0))))))) (wL_law__2850 Γ L hL xs hX (rec23) (hrec23) l4 σ30)
      · refine pn_iconst dL_law__522 rfl ic_0 ?_
        exact pn_iretv dL_law__523 rfl rfl rfl
    · refine pn_goto (pc' := 2850) dL_law__524 rfl ?_
      exact pn_wk (pn_leC rfl (pn_leC rfl (pn_leC rfl (pn_leC rfl (pn_leC rfl (pn_leN (pn_leN pn_le0))))))) (wL_law__2850 Γ L hL xs hX (rec23) (hrec23) l4 σ30)
  · refine pn_iconst dL_law__505 rfl ic_0 ?_
    exact pn_iretv dL_law__506 rfl rfl rfl

set_option maxRecDepth 20000 in
set_option maxHeartbeats 4000000 in
theorem wL_law__587 (Γ : pn_G) (L : Nat) (hL : (pn_sc Γ).2.1 = L) (xs : (Nat → Int32)) (hX : (pn_sc Γ).2.2 = xs) (rec23 : Int32 → pn_S → Option (Int32 × pn_S × Nat)) (hrec23 : ∀ (l4 : Int32) (σ : pn_S), pn_W9 Γ 65 mL_law_ pn_w3 23 [.ref 5000, .ref 0, .ref 85, .ref 96, .int l4, .null, .null] [] σ (rec23 l4 σ)) (l4 : Int32) (l5 : Int32) (s1 : Int32) (s2 : Int32) (s3 : Int32) (σ : pn_S) : pn_W9 Γ 65 mL_law_ pn_w3 587 [.ref 5000, .ref 0, .ref 85, .ref 96, .int l4, .int l5, .null] [.int s3, .int s2, .int s1, .ref 85] σ (fL_law__587 L xs rec23 l4 l5 s1 s2 s3 σ) := by
  rw [fL_law__587]
  refine pn_ci (fun r9 h9 => pn_LKV dL_law__587 lm_L_170 (ct_X11_against Γ s1 s2 s3 σ r9 h9) (by decide) qt_85 qk_85 rfl rfl (Nat.le_of_ble_eq_true rfl)) rfl (fun x39 σ39 => ?_)
  refine pn_istore (ls' := [.ref 5000, .ref 0, .ref 85, .ref 96, .int l4, .int l5, .int x39]) dL_law__590 rfl (Nat.le_of_ble_eq_true rfl) rfl ?_
  refine pn_aload_n dL_law__592 rfl rfl rfl ?_
  refine pn_cp (fun r9 h9 => pn_LKV dL_law__593 lm_L_153 (ct_X11_thrown Γ σ39 r9 h9) (by decide) qt_85 qk_85 rfl rfl (Nat.le_of_ble_eq_true rfl)) rfl (fun x40 => ?_)
  refine pn_iload dL_law__596 rfl rfl ?_
  refine pn_icmp_eq (tgt := 603) dL_law__598 rfl rfl (fun c41 => ?_) (fun c41 => ?_)
  · refine pn_iload dL_law__603 rfl rfl ?_
    refine pn_if_ne (tgt := 620) dL_law__605 rfl rfl (fun c42 => ?_) (fun c42 => ?_)
    · refine pn_aload_n dL_law__608 rfl rfl rfl ?_
      refine pn_iconst dL_law__609 rfl ic_0 ?_
      refine pn_lald dL_law__610 rfl qt_96 qk_96 (by decide) ?_
      refine pn_iload dL_law__611 rfl rfl ?_
      refine pn_i2l dL_law__613 rfl ?_
      refine pn_lcmp dL_law__614 rfl ?_
      refine pn_if_eq (tgt := 620) dL_law__615 rfl rfl (fun c43 => ?_) (fun c43 => ?_)
      · refine pn_goto (pc' := 2850) dL_law__620 rfl ?_
        exact pn_wk (pn_leC rfl (pn_leC rfl (pn_leC rfl (pn_leC rfl (pn_leC rfl (pn_leN (pn_leN pn_le0))))))) (wL_law__2850 Γ L hL xs hX (rec23) (hrec23) l4 σ39)
      · refine pn_iconst dL_law__618 rfl ic_0 ?_
        exact pn_iretv dL_law__619 rfl rfl rfl
    · refine pn_goto (pc' := 2850) dL_law__620 rfl ?_
      exact pn_wk (pn_leC rfl (pn_leC rfl (pn_leC rfl (pn_leC rfl (pn_leC rfl (pn_leN (pn_leN pn_le0))))))) (wL_law__2850 Γ L hL xs hX (rec23) (hrec23) l4 σ39)
  · refine pn_iconst dL_law__601 rfl ic_0 ?_
    exact pn_iretv dL_law__602 rfl rfl rfl

set_option maxRecDepth 20000 in
set_option maxHeartbeats 4000000 in
theorem wL_law__554 (Γ : pn_G) (L : Nat) (hL : (pn_sc Γ).2.1 = L) (xs : (Nat → Int32)) (hX : (pn_sc Γ).2.2 = xs) (rec23 : Int32 → pn_S → Option (Int32 × pn_S × Nat)) (hrec23 : ∀ (l4 : Int32) (σ : pn_S), pn_W9 Γ 65 mL_law_ pn_w3 23 [.ref 5000, .ref 0, .ref 85, .ref 96, .int l4, .null, .null] [] σ (rec23 l4 σ)) (l4 : Int32) (s1 : Int32) (s2 : Int32) (s3 : Int32) (σ : pn_S) : pn_W9 Γ 65 mL_law_ pn_w3 554 [.ref 5000, .ref 0, .ref 85, .ref 96, .int l4, .null, .null] [.int s3, .int s2, .int s1, .ref 0] σ (fL_law__554 L xs rec23 l4 s1 s2 s3 σ) := by
  rw [fL_law__554]
  refine pn_aload_n dL_law__554 rfl rfl rfl ?_
  refine pn_cw (fun r9 h9 => pn_LKH dL_law__555 lm_L_167 (ct_L_against Γ s1 s2 s3 σ r9 h9) (by decide) rfl rfl (Nat.le_of_ble_eq_true rfl)) rfl (fun x37 σ37 => ?_)
  refine pn_istore (ls' := [.ref 5000, .ref 0, .ref 85, .ref 96, .int l4, .int x37, .null]) dL_law__558 rfl (Nat.le_of_ble_eq_true rfl) rfl ?_
  refine pn_aload_n dL_law__560 rfl rfl rfl ?_
  refine pn_aload_n dL_law__561 rfl rfl rfl ?_
  refine pn_iload dL_law__562 rfl rfl ?_
  refine pn_iconst dL_law__564 rfl ic_1 ?_
  refine pn_iadd dL_law__565 rfl ?_
  refine pn_sld hL hX dL_law__566 rfl ?_
  refine pn_aload_n dL_law__567 rfl rfl rfl ?_
  refine pn_iload dL_law__568 rfl rfl ?_
  refine pn_iconst dL_law__570 rfl ic_2 ?_
  refine pn_iadd dL_law__571 rfl ?_
  refine pn_sld hL hX dL_law__572 rfl ?_
  refine pn_aload_n dL_law__573 rfl rfl rfl ?_
  refine pn_iload dL_law__574 rfl rfl ?_
  refine pn_iconst dL_law__576 rfl ic_3 ?_
  refine pn_iadd dL_law__577 rfl ?_
  refine pn_sld hL hX dL_law__578 rfl ?_
  refine pn_if_eq (tgt := 586) dL_law__579 rfl rfl (fun c38 => ?_) (fun c38 => ?_)
  · refine pn_iconst dL_law__586 rfl ic_0 ?_
    exact wL_law__587 Γ L hL xs hX (rec23) (hrec23) l4 x37 (xs (Int32.toNatClampNeg (l4 + (1 : Int32)))) (xs (Int32.toNatClampNeg (l4 + (2 : Int32)))) (0 : Int32) σ37
  · refine pn_iconst dL_law__582 rfl ic_1 ?_
    refine pn_goto (pc' := 587) dL_law__583 rfl ?_
    exact wL_law__587 Γ L hL xs hX (rec23) (hrec23) l4 x37 (xs (Int32.toNatClampNeg (l4 + (1 : Int32)))) (xs (Int32.toNatClampNeg (l4 + (2 : Int32)))) (1 : Int32) σ37

set_option maxRecDepth 20000 in
set_option maxHeartbeats 4000000 in
theorem wL_law__527 (Γ : pn_G) (L : Nat) (hL : (pn_sc Γ).2.1 = L) (xs : (Nat → Int32)) (hX : (pn_sc Γ).2.2 = xs) (rec23 : Int32 → pn_S → Option (Int32 × pn_S × Nat)) (hrec23 : ∀ (l4 : Int32) (σ : pn_S), pn_W9 Γ 65 mL_law_ pn_w3 23 [.ref 5000, .ref 0, .ref 85, .ref 96, .int l4, .null, .null] [] σ (rec23 l4 σ)) (l4 : Int32) (σ : pn_S) : pn_W9 Γ 65 mL_law_ pn_w3 527 [.ref 5000, .ref 0, .ref 85, .ref 96, .int l4, .null, .null] [] σ (fL_law__527 L xs rec23 l4 σ) := by
  rw [fL_law__527]
  refine pn_aload_n dL_law__527 rfl rfl rfl ?_
  refine pn_aload_n dL_law__528 rfl rfl rfl ?_
  refine pn_iload dL_law__529 rfl rfl ?_
  refine pn_iconst dL_law__531 rfl ic_1 ?_
  refine pn_iadd dL_law__532 rfl ?_
  refine pn_sld hL hX dL_law__533 rfl ?_
  refine pn_aload_n dL_law__534 rfl rfl rfl ?_
  refine pn_iload dL_law__535 rfl rfl ?_
  refine pn_iconst dL_law__537 rfl ic_2 ?_
  refine pn_iadd dL_law__538 rfl ?_
  refine pn_sld hL hX dL_law__539 rfl ?_
  refine pn_aload_n dL_law__540 rfl rfl rfl ?_
  refine pn_iload dL_law__541 rfl rfl ?_
  refine pn_iconst dL_law__543 rfl ic_3 ?_
  refine pn_iadd dL_law__544 rfl ?_
  refine pn_sld hL hX dL_law__545 rfl ?_
  refine pn_if_eq (tgt := 553) dL_law__546 rfl rfl (fun c36 => ?_) (fun c36 => ?_)
  · refine pn_iconst dL_law__553 rfl ic_0 ?_
    exact wL_law__554 Γ L hL xs hX (rec23) (hrec23) l4 (xs (Int32.toNatClampNeg (l4 + (1 : Int32)))) (xs (Int32.toNatClampNeg (l4 + (2 : Int32)))) (0 : Int32) σ
  · refine pn_iconst dL_law__549 rfl ic_1 ?_
    refine pn_goto (pc' := 554) dL_law__550 rfl ?_
    exact wL_law__554 Γ L hL xs hX (rec23) (hrec23) l4 (xs (Int32.toNatClampNeg (l4 + (1 : Int32)))) (xs (Int32.toNatClampNeg (l4 + (2 : Int32)))) (1 : Int32) σ

set_option maxRecDepth 20000 in
set_option maxHeartbeats 4000000 in
theorem wL_law__623 (Γ : pn_G) (L : Nat) (hL : (pn_sc Γ).2.1 = L) (xs : (Nat → Int32)) (hX : (pn_sc Γ).2.2 = xs) (rec23 : Int32 → pn_S → Option (Int32 × pn_S × Nat)) (hrec23 : ∀ (l4 : Int32) (σ : pn_S), pn_W9 Γ 65 mL_law_ pn_w3 23 [.ref 5000, .ref 0, .ref 85, .ref 96, .int l4, .null, .null] [] σ (rec23 l4 σ)) (l4 : Int32) (σ : pn_S) : pn_W9 Γ 65 mL_law_ pn_w3 623 [.ref 5000, .ref 0, .ref 85, .ref 96, .int l4, .null, .null] [] σ (fL_law__623 L xs rec23 l4 σ) := by
  rw [fL_law__623]
  refine pn_aload_n dL_law__623 rfl rfl rfl ?_
  refine pn_aload_n dL_law__624 rfl rfl rfl ?_
  refine pn_iload dL_law__625 rfl rfl ?_
  refine pn_iconst dL_law__627 rfl ic_1 ?_
  refine pn_iadd dL_law__628 rfl ?_
  refine pn_sld hL hX dL_law__629 rfl ?_
  refine pn_aload_n dL_law__630 rfl rfl rfl ?_
  refine pn_cw (fun r9 h9 => pn_LKH dL_law__631 lm_L_171 (ct_L_name Γ (xs (Int32.toNatClampNeg (l4 + (1 : Int32)))) σ r9 h9) (by decide) rfl rfl (Nat.le_of_ble_eq_true rfl)) rfl (fun x45 σ45 => ?_)
  refine pn_istore (ls' := [.ref 5000, .ref 0, .ref 85, .ref 96, .int l4, .int x45, .null]) dL_law__634 rfl (Nat.le_of_ble_eq_true rfl) rfl ?_
  refine pn_aload_n dL_law__636 rfl rfl rfl ?_
  refine pn_aload_n dL_law__637 rfl rfl rfl ?_
  refine pn_iload dL_law__638 rfl rfl ?_
  refine pn_iconst dL_law__640 rfl ic_1 ?_
  refine pn_iadd dL_law__641 rfl ?_
  refine pn_sld hL hX dL_law__642 rfl ?_
  refine pn_ci (fun r9 h9 => pn_LKV dL_law__643 lm_L_174 (ct_X11_name Γ (xs (Int32.toNatClampNeg (l4 + (1 : Int32)))) σ45 r9 h9) (by decide) qt_85 qk_85 rfl rfl (Nat.le_of_ble_eq_true rfl)) rfl (fun x46 σ46 => ?_)
  refine pn_istore (ls' := [.ref 5000, .ref 0, .ref 85, .ref 96, .int l4, .int x45, .int x46]) dL_law__646 rfl (Nat.le_of_ble_eq_true rfl) rfl ?_
  refine pn_aload_n dL_law__648 rfl rfl rfl ?_
  refine pn_cp (fun r9 h9 => pn_LKV dL_law__649 lm_L_153 (ct_X11_thrown Γ σ46 r9 h9) (by decide) qt_85 qk_85 rfl rfl (Nat.le_of_ble_eq_true rfl)) rfl (fun x47 => ?_)
  refine pn_iload dL_law__652 rfl rfl ?_
  refine pn_icmp_eq (tgt := 659) dL_law__654 rfl rfl (fun c48 => ?_) (fun c48 => ?_)
  · refine pn_iload dL_law__659 rfl rfl ?_
    refine pn_if_ne (tgt := 676) dL_law__661 rfl rfl (fun c49 => ?_) (fun c49 => ?_)
    · refine pn_aload_n dL_law__664 rfl rfl rfl ?_
      refine pn_iconst dL_law__665 rfl ic_0 ?_
      refine pn_lald dL_law__666 rfl qt_96 qk_96 (by decide) ?_
      refine pn_iload dL_law__667 rfl rfl ?_
      refine pn_i2l dL_law__669 rfl ?_
      refine pn_lcmp dL_law__670 rfl ?_
      refine pn_if_eq (tgt := 676) dL_law__671 rfl rfl (fun c50 => ?_) (fun c50 => ?_)
      · refine pn_goto (pc' := 2850) dL_law__676 rfl ?_
        exact pn_wk (pn_leC rfl (pn_leC rfl (pn_leC rfl (pn_leC rfl (pn_leC rfl (pn_leN (pn_leN pn_le0))))))) (wL_law__2850 Γ L hL xs hX (rec23) (hrec23) l4 σ46)
      · refine pn_iconst dL_law__674 rfl ic_0 ?_
        exact pn_iretv dL_law__675 rfl rfl rfl
    · refine pn_goto (pc' := 2850) dL_law__676 rfl ?_
      exact pn_wk (pn_leC rfl (pn_leC rfl (pn_leC rfl (pn_leC rfl (pn_leC rfl (pn_leN (pn_leN pn_le0))))))) (wL_law__2850 Γ L hL xs hX (rec23) (hrec23) l4 σ46)
  · refine pn_iconst dL_law__657 rfl ic_0 ?_
    exact pn_iretv dL_law__658 rfl rfl rfl

set_option maxRecDepth 20000 in
set_option maxHeartbeats 4000000 in
theorem wL_law__761 (Γ : pn_G) (L : Nat) (hL : (pn_sc Γ).2.1 = L) (xs : (Nat → Int32)) (hX : (pn_sc Γ).2.2 = xs) (rec23 : Int32 → pn_S → Option (Int32 × pn_S × Nat)) (hrec23 : ∀ (l4 : Int32) (σ : pn_S), pn_W9 Γ 65 mL_law_ pn_w3 23 [.ref 5000, .ref 0, .ref 85, .ref 96, .int l4, .null, .null] [] σ (rec23 l4 σ)) (l4 : Int32) (s0 : Int32) (s1 : Int32) (σ : pn_S) : pn_W9 Γ 65 mL_law_ pn_w3 761 [.ref 5000, .ref 0, .ref 85, .ref 96, .int l4, .null, .null] [.long (Int32.toInt64 s1), .long (Int32.toInt64 s0)] σ (fL_law__761 L xs rec23 l4 s0 s1 σ) := by
  rw [fL_law__761]
  refine pn_lcmp dL_law__761 rfl ?_
  refine pn_if_eq (tgt := 767) dL_law__762 rfl rfl (fun c60 => ?_) (fun c60 => ?_)
  · refine pn_goto (pc' := 2850) dL_law__767 rfl ?_
    exact wL_law__2850 Γ L hL xs hX (rec23) (hrec23) l4 σ
  · refine pn_iconst dL_law__765 rfl ic_0 ?_
    exact pn_iretv dL_law__766 rfl rfl rfl

set_option maxRecDepth 20000 in
set_option maxHeartbeats 4000000 in
theorem wL_law__727 (Γ : pn_G) (L : Nat) (hL : (pn_sc Γ).2.1 = L) (xs : (Nat → Int32)) (hX : (pn_sc Γ).2.2 = xs) (rec23 : Int32 → pn_S → Option (Int32 × pn_S × Nat)) (hrec23 : ∀ (l4 : Int32) (σ : pn_S), pn_W9 Γ 65 mL_law_ pn_w3 23 [.ref 5000, .ref 0, .ref 85, .ref 96, .int l4, .null, .null] [] σ (rec23 l4 σ)) (l4 : Int32) (l5 : Int32) (s1 : Int32) (s2 : Int32) (σ : pn_S) : pn_W9 Γ 65 mL_law_ pn_w3 727 [.ref 5000, .ref 0, .ref 85, .ref 96, .int l4, .int l5, .null] [.int s2, .int s1, .ref 85] σ (fL_law__727 L xs rec23 l4 l5 s1 s2 σ) := by
  rw [fL_law__727]
  refine pn_ci (fun r9 h9 => pn_LKV dL_law__727 lm_L_178 (ct_X11_begin Γ s1 s2 σ r9 h9) (by decide) qt_85 qk_85 rfl rfl (Nat.le_of_ble_eq_true rfl)) rfl (fun x55 σ55 => ?_)
  refine pn_istore (ls' := [.ref 5000, .ref 0, .ref 85, .ref 96, .int l4, .int l5, .int x55]) dL_law__730 rfl (Nat.le_of_ble_eq_true rfl) rfl ?_
  refine pn_aload_n dL_law__732 rfl rfl rfl ?_
  refine pn_cp (fun r9 h9 => pn_LKV dL_law__733 lm_L_153 (ct_X11_thrown Γ σ55 r9 h9) (by decide) qt_85 qk_85 rfl rfl (Nat.le_of_ble_eq_true rfl)) rfl (fun x56 => ?_)
  refine pn_iload dL_law__736 rfl rfl ?_
  refine pn_icmp_eq (tgt := 743) dL_law__738 rfl rfl (fun c57 => ?_) (fun c57 => ?_)
  · refine pn_iload dL_law__743 rfl rfl ?_
    refine pn_if_ne (tgt := 767) dL_law__745 rfl rfl (fun c58 => ?_) (fun c58 => ?_)
    · refine pn_aload_n dL_law__748 rfl rfl rfl ?_
      refine pn_iconst dL_law__749 rfl ic_0 ?_
      refine pn_lald dL_law__750 rfl qt_96 qk_96 (by decide) ?_
      refine pn_iload dL_law__751 rfl rfl ?_
      refine pn_if_eq (tgt := 760) dL_law__753 rfl rfl (fun c59 => ?_) (fun c59 => ?_)
      · refine pn_lconst (x := (0 : Int32)) dL_law__760 rfl (by decide) ?_
        exact pn_wk (pn_leC rfl (pn_leC rfl (pn_leC rfl (pn_leC rfl (pn_leC rfl (pn_leN (pn_leN pn_le0))))))) (wL_law__761 Γ L hL xs hX (rec23) (hrec23) l4 (σ55 96 0) (0 : Int32) σ55)
      · refine pn_lconst (x := (1 : Int32)) dL_law__756 rfl (by decide) ?_
        refine pn_goto (pc' := 761) dL_law__757 rfl ?_
        exact pn_wk (pn_leC rfl (pn_leC rfl (pn_leC rfl (pn_leC rfl (pn_leC rfl (pn_leN (pn_leN pn_le0))))))) (wL_law__761 Γ L hL xs hX (rec23) (hrec23) l4 (σ55 96 0) (1 : Int32) σ55)
    · refine pn_goto (pc' := 2850) dL_law__767 rfl ?_
      exact pn_wk (pn_leC rfl (pn_leC rfl (pn_leC rfl (pn_leC rfl (pn_leC rfl (pn_leN (pn_leN pn_le0))))))) (wL_law__2850 Γ L hL xs hX (rec23) (hrec23) l4 σ55)
  · refine pn_iconst dL_law__741 rfl ic_0 ?_
    exact pn_iretv dL_law__742 rfl rfl rfl

set_option maxRecDepth 20000 in
set_option maxHeartbeats 4000000 in
theorem wL_law__700 (Γ : pn_G) (L : Nat) (hL : (pn_sc Γ).2.1 = L) (xs : (Nat → Int32)) (hX : (pn_sc Γ).2.2 = xs) (rec23 : Int32 → pn_S → Option (Int32 × pn_S × Nat)) (hrec23 : ∀ (l4 : Int32) (σ : pn_S), pn_W9 Γ 65 mL_law_ pn_w3 23 [.ref 5000, .ref 0, .ref 85, .ref 96, .int l4, .null, .null] [] σ (rec23 l4 σ)) (l4 : Int32) (s1 : Int32) (s2 : Int32) (σ : pn_S) : pn_W9 Γ 65 mL_law_ pn_w3 700 [.ref 5000, .ref 0, .ref 85, .ref 96, .int l4, .null, .null] [.int s2, .int s1, .ref 0] σ (fL_law__700 L xs rec23 l4 s1 s2 σ) := by
  rw [fL_law__700]
  refine pn_aload_n dL_law__700 rfl rfl rfl ?_
  refine pn_cw (fun r9 h9 => pn_LKH dL_law__701 lm_L_175 (ct_L_begin Γ s1 s2 σ r9 h9) (by decide) rfl rfl (Nat.le_of_ble_eq_true rfl)) rfl (fun x53 σ53 => ?_)
  refine pn_istore (ls' := [.ref 5000, .ref 0, .ref 85, .ref 96, .int l4, .int x53, .null]) dL_law__704 rfl (Nat.le_of_ble_eq_true rfl) rfl ?_
  refine pn_aload_n dL_law__706 rfl rfl rfl ?_
  refine pn_aload_n dL_law__707 rfl rfl rfl ?_
  refine pn_iload dL_law__708 rfl rfl ?_
  refine pn_iconst dL_law__710 rfl ic_1 ?_
  refine pn_iadd dL_law__711 rfl ?_
  refine pn_sld hL hX dL_law__712 rfl ?_
  refine pn_aload_n dL_law__713 rfl rfl rfl ?_
  refine pn_iload dL_law__714 rfl rfl ?_
  refine pn_iconst dL_law__716 rfl ic_2 ?_
  refine pn_iadd dL_law__717 rfl ?_
  refine pn_sld hL hX dL_law__718 rfl ?_
  refine pn_if_eq (tgt := 726) dL_law__719 rfl rfl (fun c54 => ?_) (fun c54 => ?_)
  · refine pn_iconst dL_law__726 rfl ic_0 ?_
    exact wL_law__727 Γ L hL xs hX (rec23) (hrec23) l4 x53 (xs (Int32.toNatClampNeg (l4 + (1 : Int32)))) (0 : Int32) σ53
  · refine pn_iconst dL_law__722 rfl ic_1 ?_
    refine pn_goto (pc' := 727) dL_law__723 rfl ?_
    exact wL_law__727 Γ L hL xs hX (rec23) (hrec23) l4 x53 (xs (Int32.toNatClampNeg (l4 + (1 : Int32)))) (1 : Int32) σ53

set_option maxRecDepth 20000 in
set_option maxHeartbeats 4000000 in
theorem wL_law__679 (Γ : pn_G) (L : Nat) (hL : (pn_sc Γ).2.1 = L) (xs : (Nat → Int32)) (hX : (pn_sc Γ).2.2 = xs) (rec23 : Int32 → pn_S → Option (Int32 × pn_S × Nat)) (hrec23 : ∀ (l4 : Int32) (σ : pn_S), pn_W9 Γ 65 mL_law_ pn_w3 23 [.ref 5000, .ref 0, .ref 85, .ref 96, .int l4, .null, .null] [] σ (rec23 l4 σ)) (l4 : Int32) (σ : pn_S) : pn_W9 Γ 65 mL_law_ pn_w3 679 [.ref 5000, .ref 0, .ref 85, .ref 96, .int l4, .null, .null] [] σ (fL_law__679 L xs rec23 l4 σ) := by
  rw [fL_law__679]
  refine pn_aload_n dL_law__679 rfl rfl rfl ?_
  refine pn_aload_n dL_law__680 rfl rfl rfl ?_
  refine pn_iload dL_law__681 rfl rfl ?_
  refine pn_iconst dL_law__683 rfl ic_1 ?_
  refine pn_iadd dL_law__684 rfl ?_
  refine pn_sld hL hX dL_law__685 rfl ?_
  refine pn_aload_n dL_law__686 rfl rfl rfl ?_
  refine pn_iload dL_law__687 rfl rfl ?_
  refine pn_iconst dL_law__689 rfl ic_2 ?_
  refine pn_iadd dL_law__690 rfl ?_
  refine pn_sld hL hX dL_law__691 rfl ?_
  refine pn_if_eq (tgt := 699) dL_law__692 rfl rfl (fun c52 => ?_) (fun c52 => ?_)
  · refine pn_iconst dL_law__699 rfl ic_0 ?_
    exact wL_law__700 Γ L hL xs hX (rec23) (hrec23) l4 (xs (Int32.toNatClampNeg (l4 + (1 : Int32)))) (0 : Int32) σ
  · refine pn_iconst dL_law__695 rfl ic_1 ?_
    refine pn_goto (pc' := 700) dL_law__696 rfl ?_
    exact wL_law__700 Γ L hL xs hX (rec23) (hrec23) l4 (xs (Int32.toNatClampNeg (l4 + (1 : Int32)))) (1 : Int32) σ

set_option maxRecDepth 20000 in
set_option maxHeartbeats 4000000 in
theorem wL_law__770 (Γ : pn_G) (L : Nat) (hL : (pn_sc Γ).2.1 = L) (xs : (Nat → Int32)) (hX : (pn_sc Γ).2.2 = xs) (rec23 : Int32 → pn_S → Option (Int32 × pn_S × Nat)) (hrec23 : ∀ (l4 : Int32) (σ : pn_S), pn_W9 Γ 65 mL_law_ pn_w3 23 [.ref 5000, .ref 0, .ref 85, .ref 96, .int l4, .null, .null] [] σ (rec23 l4 σ)) (l4 : Int32) (σ : pn_S) : pn_W9 Γ 65 mL_law_ pn_w3 770 [.ref 5000, .ref 0, .ref 85, .ref 96, .int l4, .null, .null] [] σ (fL_law__770 L xs rec23 l4 σ) := by
  rw [fL_law__770]
  refine pn_aload_n dL_law__770 rfl rfl rfl ?_
  refine pn_aload_n dL_law__771 rfl rfl rfl ?_
  refine pn_cw (fun r9 h9 => pn_LKH dL_law__772 lm_L_179 (ct_L_buy Γ σ r9 h9) (by decide) rfl rfl (Nat.le_of_ble_eq_true rfl)) rfl (fun x62 σ62 => ?_)
  refine pn_istore (ls' := [.ref 5000, .ref 0, .ref 85, .ref 96, .int l4, .int x62, .null]) dL_law__775 rfl (Nat.le_of_ble_eq_true rfl) rfl ?_
  refine pn_aload_n dL_law__777 rfl rfl rfl ?_
  refine pn_ci (fun r9 h9 => pn_LKV dL_law__778 lm_L_181 (ct_X11_buy Γ σ62 r9 h9) (by decide) qt_85 qk_85 rfl rfl (Nat.le_of_ble_eq_true rfl)) rfl (fun x63 σ63 => ?_)
  refine pn_istore (ls' := [.ref 5000, .ref 0, .ref 85, .ref 96, .int l4, .int x62, .int x63]) dL_law__781 rfl (Nat.le_of_ble_eq_true rfl) rfl ?_
  refine pn_aload_n dL_law__783 rfl rfl rfl ?_
  refine pn_cp (fun r9 h9 => pn_LKV dL_law__784 lm_L_153 (ct_X11_thrown Γ σ63 r9 h9) (by decide) qt_85 qk_85 rfl rfl (Nat.le_of_ble_eq_true rfl)) rfl (fun x64 => ?_)
  refine pn_iload dL_law__787 rfl rfl ?_
  refine pn_icmp_eq (tgt := 794) dL_law__789 rfl rfl (fun c65 => ?_) (fun c65 => ?_)
  · refine pn_iload dL_law__794 rfl rfl ?_
    refine pn_if_ne (tgt := 811) dL_law__796 rfl rfl (fun c66 => ?_) (fun c66 => ?_)
    · refine pn_aload_n dL_law__799 rfl rfl rfl ?_
      refine pn_iconst dL_law__800 rfl ic_0 ?_
      refine pn_lald dL_law__801 rfl qt_96 qk_96 (by decide) ?_
      refine pn_iload dL_law__802 rfl rfl ?_
      refine pn_i2l dL_law__804 rfl ?_
      refine pn_lcmp dL_law__805 rfl ?_
      refine pn_if_eq (tgt := 811) dL_law__806 rfl rfl (fun c67 => ?_) (fun c67 => ?_)
      · refine pn_goto (pc' := 2850) dL_law__811 rfl ?_
        exact pn_wk (pn_leC rfl (pn_leC rfl (pn_leC rfl (pn_leC rfl (pn_leC rfl (pn_leN (pn_leN pn_le0))))))) (wL_law__2850 Γ L hL xs hX (rec23) (hrec23) l4 σ63)
      · refine pn_iconst dL_law__809 rfl ic_0 ?_
        exact pn_iretv dL_law__810 rfl rfl rfl
    · refine pn_goto (pc' := 2850) dL_law__811 rfl ?_
      exact pn_wk (pn_leC rfl (pn_leC rfl (pn_leC rfl (pn_leC rfl (pn_leC rfl (pn_leN (pn_leN pn_le0))))))) (wL_law__2850 Γ L hL xs hX (rec23) (hrec23) l4 σ63)
  · refine pn_iconst dL_law__792 rfl ic_0 ?_
    exact pn_iretv dL_law__793 rfl rfl rfl

set_option maxRecDepth 20000 in
set_option maxHeartbeats 4000000 in
theorem wL_law__814 (Γ : pn_G) (L : Nat) (hL : (pn_sc Γ).2.1 = L) (xs : (Nat → Int32)) (hX : (pn_sc Γ).2.2 = xs) (rec23 : Int32 → pn_S → Option (Int32 × pn_S × Nat)) (hrec23 : ∀ (l4 : Int32) (σ : pn_S), pn_W9 Γ 65 mL_law_ pn_w3 23 [.ref 5000, .ref 0, .ref 85, .ref 96, .int l4, .null, .null] [] σ (rec23 l4 σ)) (l4 : Int32) (σ : pn_S) : pn_W9 Γ 65 mL_law_ pn_w3 814 [.ref 5000, .ref 0, .ref 85, .ref 96, .int l4, .null, .null] [] σ (fL_law__814 L xs rec23 l4 σ) := by
  rw [fL_law__814]
  refine pn_aload_n dL_law__814 rfl rfl rfl ?_
  refine pn_aload_n dL_law__815 rfl rfl rfl ?_
  refine pn_iload dL_law__816 rfl rfl ?_
  refine pn_iconst dL_law__818 rfl ic_1 ?_
  refine pn_iadd dL_law__819 rfl ?_
  refine pn_sld hL hX dL_law__820 rfl ?_
  refine pn_aload_n dL_law__821 rfl rfl rfl ?_
  refine pn_iload dL_law__822 rfl rfl ?_
  refine pn_iconst dL_law__824 rfl ic_2 ?_
  refine pn_iadd dL_law__825 rfl ?_
  refine pn_sld hL hX dL_law__826 rfl ?_
  refine pn_aload_n dL_law__827 rfl rfl rfl ?_
  refine pn_cw (fun r9 h9 => pn_LKH dL_law__828 lm_L_182 (ct_L_feud Γ (xs (Int32.toNatClampNeg (l4 + (1 : Int32)))) (xs (Int32.toNatClampNeg (l4 + (2 : Int32)))) σ r9 h9) (by decide) rfl rfl (Nat.le_of_ble_eq_true rfl)) rfl (fun x69 σ69 => ?_)
  refine pn_istore (ls' := [.ref 5000, .ref 0, .ref 85, .ref 96, .int l4, .int x69, .null]) dL_law__831 rfl (Nat.le_of_ble_eq_true rfl) rfl ?_
  refine pn_aload_n dL_law__833 rfl rfl rfl ?_
  refine pn_aload_n dL_law__834 rfl rfl rfl ?_
  refine pn_iload dL_law__835 rfl rfl ?_
  refine pn_iconst dL_law__837 rfl ic_1 ?_
  refine pn_iadd dL_law__838 rfl ?_
  refine pn_sld hL hX dL_law__839 rfl ?_
  refine pn_aload_n dL_law__840 rfl rfl rfl ?_
  refine pn_iload dL_law__841 rfl rfl ?_
  refine pn_iconst dL_law__843 rfl ic_2 ?_
  refine pn_iadd dL_law__844 rfl ?_
  refine pn_sld hL hX dL_law__845 rfl ?_
  refine pn_ci (fun r9 h9 => pn_LKV dL_law__846 lm_L_184 (ct_X11_feud Γ (xs (Int32.toNatClampNeg (l4 + (1 : Int32)))) (xs (Int32.toNatClampNeg (l4 + (2 : Int32)))) σ69 r9 h9) (by decide) qt_85 qk_85 rfl rfl (Nat.le_of_ble_eq_true rfl)) rfl (fun x70 σ70 => ?_)
  refine pn_istore (ls' := [.ref 5000, .ref 0, .ref 85, .ref 96, .int l4, .int x69, .int x70]) dL_law__849 rfl (Nat.le_of_ble_eq_true rfl) rfl ?_
  refine pn_aload_n dL_law__851 rfl rfl rfl ?_
  refine pn_cp (fun r9 h9 => pn_LKV dL_law__852 lm_L_153 (ct_X11_thrown Γ σ70 r9 h9) (by decide) qt_85 qk_85 rfl rfl (Nat.le_of_ble_eq_true rfl)) rfl (fun x71 => ?_)
  refine pn_iload dL_law__855 rfl rfl ?_
  refine pn_icmp_eq (tgt := 862) dL_law__857 rfl rfl (fun c72 => ?_) (fun c72 => ?_)
  · refine pn_iload dL_law__862 rfl rfl ?_
    refine pn_if_ne (tgt := 879) dL_law__864 rfl rfl (fun c73 => ?_) (fun c73 => ?_)
    · refine pn_aload_n dL_law__867 rfl rfl rfl ?_
      refine pn_iconst dL_law__868 rfl ic_0 ?_
      refine pn_lald dL_law__869 rfl qt_96 qk_96 (by decide) ?_
      refine pn_iload dL_law__870 rfl rfl ?_
      refine pn_i2l dL_law__872 rfl ?_
      refine pn_lcmp dL_law__873 rfl ?_
      refine pn_if_eq (tgt := 879) dL_law__874 rfl rfl (fun c74 => ?_) (fun c74 => ?_)
      · refine pn_goto (pc' := 2850) dL_law__879 rfl ?_
        exact pn_wk (pn_leC rfl (pn_leC rfl (pn_leC rfl (pn_leC rfl (pn_leC rfl (pn_leN (pn_leN pn_le0))))))) (wL_law__2850 Γ L hL xs hX (rec23) (hrec23) l4 σ70)
      · refine pn_iconst dL_law__877 rfl ic_0 ?_
        exact pn_iretv dL_law__878 rfl rfl rfl
    · refine pn_goto (pc' := 2850) dL_law__879 rfl ?_
      exact pn_wk (pn_leC rfl (pn_leC rfl (pn_leC rfl (pn_leC rfl (pn_leC rfl (pn_leN (pn_leN pn_le0))))))) (wL_law__2850 Γ L hL xs hX (rec23) (hrec23) l4 σ70)
  · refine pn_iconst dL_law__860 rfl ic_0 ?_
    exact pn_iretv dL_law__861 rfl rfl rfl

set_option maxRecDepth 20000 in
set_option maxHeartbeats 4000000 in
theorem wL_law__882 (Γ : pn_G) (L : Nat) (hL : (pn_sc Γ).2.1 = L) (xs : (Nat → Int32)) (hX : (pn_sc Γ).2.2 = xs) (rec23 : Int32 → pn_S → Option (Int32 × pn_S × Nat)) (hrec23 : ∀ (l4 : Int32) (σ : pn_S), pn_W9 Γ 65 mL_law_ pn_w3 23 [.ref 5000, .ref 0, .ref 85, .ref 96, .int l4, .null, .null] [] σ (rec23 l4 σ)) (l4 : Int32) (σ : pn_S) : pn_W9 Γ 65 mL_law_ pn_w3 882 [.ref 5000, .ref 0, .ref 85, .ref 96, .int l4, .null, .null] [] σ (fL_law__882 L xs rec23 l4 σ) := by
  rw [fL_law__882]
  refine pn_aload_n dL_law__882 rfl rfl rfl ?_
  refine pn_aload_n dL_law__883 rfl rfl rfl ?_
  refine pn_iload dL_law__884 rfl rfl ?_
  refine pn_iconst dL_law__886 rfl ic_1 ?_
  refine pn_iadd dL_law__887 rfl ?_
  refine pn_sld hL hX dL_law__888 rfl ?_
  refine pn_aload_n dL_law__889 rfl rfl rfl ?_
  refine pn_iload dL_law__890 rfl rfl ?_
  refine pn_iconst dL_law__892 rfl ic_2 ?_
  refine pn_iadd dL_law__893 rfl ?_
  refine pn_sld hL hX dL_law__894 rfl ?_
  refine pn_aload_n dL_law__895 rfl rfl rfl ?_
  refine pn_cw (fun r9 h9 => pn_LKH dL_law__896 lm_L_185 (ct_L_teach Γ (xs (Int32.toNatClampNeg (l4 + (1 : Int32)))) (xs (Int32.toNatClampNeg (l4 + (2 : Int32)))) σ r9 h9) (by decide) rfl rfl (Nat.le_of_ble_eq_true rfl)) rfl (fun x76 σ76 => ?_)
  refine pn_istore (ls' := [.ref 5000, .ref 0, .ref 85, .ref 96, .int l4, .int x76, .null]) dL_law__899 rfl (Nat.le_of_ble_eq_true rfl) rfl ?_
  refine pn_aload_n dL_law__901 rfl rfl rfl ?_
  refine pn_aload_n dL_law__902 rfl rfl rfl ?_
  refine pn_iload dL_law__903 rfl rfl ?_
  refine pn_iconst dL_law__905 rfl ic_1 ?_
  refine pn_iadd dL_law__906 rfl ?_
  refine pn_sld hL hX dL_law__907 rfl ?_
  refine pn_aload_n dL_law__908 rfl rfl rfl ?_
  refine pn_iload dL_law__909 rfl rfl ?_
  refine pn_iconst dL_law__911 rfl ic_2 ?_
  refine pn_iadd dL_law__912 rfl ?_
  refine pn_sld hL hX dL_law__913 rfl ?_
  refine pn_ci (fun r9 h9 => pn_LKV dL_law__914 lm_L_187 (ct_X11_teach Γ (xs (Int32.toNatClampNeg (l4 + (1 : Int32)))) (xs (Int32.toNatClampNeg (l4 + (2 : Int32)))) σ76 r9 h9) (by decide) qt_85 qk_85 rfl rfl (Nat.le_of_ble_eq_true rfl)) rfl (fun x77 σ77 => ?_)
  refine pn_istore (ls' := [.ref 5000, .ref 0, .ref 85, .ref 96, .int l4, .int x76, .int x77]) dL_law__917 rfl (Nat.le_of_ble_eq_true rfl) rfl ?_
  refine pn_aload_n dL_law__919 rfl rfl rfl ?_
  refine pn_cp (fun r9 h9 => pn_LKV dL_law__920 lm_L_153 (ct_X11_thrown Γ σ77 r9 h9) (by decide) qt_85 qk_85 rfl rfl (Nat.le_of_ble_eq_true rfl)) rfl (fun x78 => ?_)
  refine pn_iload dL_law__923 rfl rfl ?_
  refine pn_icmp_eq (tgt := 930) dL_law__925 rfl rfl (fun c79 => ?_) (fun c79 => ?_)
  · refine pn_iload dL_law__930 rfl rfl ?_
    refine pn_if_ne (tgt := 947) dL_law__932 rfl rfl (fun c80 => ?_) (fun c80 => ?_)
    · refine pn_aload_n dL_law__935 rfl rfl rfl ?_
      refine pn_iconst dL_law__936 rfl ic_0 ?_
      refine pn_lald dL_law__937 rfl qt_96 qk_96 (by decide) ?_
      refine pn_iload dL_law__938 rfl rfl ?_
      refine pn_i2l dL_law__940 rfl ?_
      refine pn_lcmp dL_law__941 rfl ?_
      refine pn_if_eq (tgt := 947) dL_law__942 rfl rfl (fun c81 => ?_) (fun c81 => ?_)
      · refine pn_goto (pc' := 2850) dL_law__947 rfl ?_
        exact pn_wk (pn_leC rfl (pn_leC rfl (pn_leC rfl (pn_leC rfl (pn_leC rfl (pn_leN (pn_leN pn_le0))))))) (wL_law__2850 Γ L hL xs hX (rec23) (hrec23) l4 σ77)
      · refine pn_iconst dL_law__945 rfl ic_0 ?_
        exact pn_iretv dL_law__946 rfl rfl rfl
    · refine pn_goto (pc' := 2850) dL_law__947 rfl ?_
      exact pn_wk (pn_leC rfl (pn_leC rfl (pn_leC rfl (pn_leC rfl (pn_leC rfl (pn_leN (pn_leN pn_le0))))))) (wL_law__2850 Γ L hL xs hX (rec23) (hrec23) l4 σ77)
  · refine pn_iconst dL_law__928 rfl ic_0 ?_
    exact pn_iretv dL_law__929 rfl rfl rfl

set_option maxRecDepth 20000 in
set_option maxHeartbeats 4000000 in
theorem wL_law__950 (Γ : pn_G) (L : Nat) (hL : (pn_sc Γ).2.1 = L) (xs : (Nat → Int32)) (hX : (pn_sc Γ).2.2 = xs) (rec23 : Int32 → pn_S → Option (Int32 × pn_S × Nat)) (hrec23 : ∀ (l4 : Int32) (σ : pn_S), pn_W9 Γ 65 mL_law_ pn_w3 23 [.ref 5000, .ref 0, .ref 85, .ref 96, .int l4, .null, .null] [] σ (rec23 l4 σ)) (l4 : Int32) (σ : pn_S) : pn_W9 Γ 65 mL_law_ pn_w3 950 [.ref 5000, .ref 0, .ref 85, .ref 96, .int l4, .null, .null] [] σ (fL_law__950 L xs rec23 l4 σ) := by
  rw [fL_law__950]
  refine pn_aload_n dL_law__950 rfl rfl rfl ?_
  refine pn_aload_n dL_law__951 rfl rfl rfl ?_
  refine pn_iload dL_law__952 rfl rfl ?_
  refine pn_iconst dL_law__954 rfl ic_1 ?_
  refine pn_iadd dL_law__955 rfl ?_
  refine pn_sld hL hX dL_law__956 rfl ?_
  refine pn_aload_n dL_law__957 rfl rfl rfl ?_
  refine pn_iload dL_law__958 rfl rfl ?_
  refine pn_iconst dL_law__960 rfl ic_2 ?_
  refine pn_iadd dL_law__961 rfl ?_
  refine pn_sld hL hX dL_law__962 rfl ?_
  refine pn_aload_n dL_law__963 rfl rfl rfl ?_
  refine pn_cw (fun r9 h9 => pn_LKH dL_law__964 lm_L_188 (ct_L_wrong Γ (xs (Int32.toNatClampNeg (l4 + (1 : Int32)))) (xs (Int32.toNatClampNeg (l4 + (2 : Int32)))) σ r9 h9) (by decide) rfl rfl (Nat.le_of_ble_eq_true rfl)) rfl (fun x83 σ83 => ?_)
  refine pn_istore (ls' := [.ref 5000, .ref 0, .ref 85, .ref 96, .int l4, .int x83, .null]) dL_law__967 rfl (Nat.le_of_ble_eq_true rfl) rfl ?_
  refine pn_aload_n dL_law__969 rfl rfl rfl ?_
  refine pn_aload_n dL_law__970 rfl rfl rfl ?_
  refine pn_iload dL_law__971 rfl rfl ?_
  refine pn_iconst dL_law__973 rfl ic_1 ?_
  refine pn_iadd dL_law__974 rfl ?_
  refine pn_sld hL hX dL_law__975 rfl ?_
  refine pn_aload_n dL_law__976 rfl rfl rfl ?_
  refine pn_iload dL_law__977 rfl rfl ?_
  refine pn_iconst dL_law__979 rfl ic_2 ?_
  refine pn_iadd dL_law__980 rfl ?_
  refine pn_sld hL hX dL_law__981 rfl ?_
  refine pn_ci (fun r9 h9 => pn_LKV dL_law__982 lm_L_190 (ct_X11_wrong Γ (xs (Int32.toNatClampNeg (l4 + (1 : Int32)))) (xs (Int32.toNatClampNeg (l4 + (2 : Int32)))) σ83 r9 h9) (by decide) qt_85 qk_85 rfl rfl (Nat.le_of_ble_eq_true rfl)) rfl (fun x84 σ84 => ?_)
  refine pn_istore (ls' := [.ref 5000, .ref 0, .ref 85, .ref 96, .int l4, .int x83, .int x84]) dL_law__985 rfl (Nat.le_of_ble_eq_true rfl) rfl ?_
  refine pn_aload_n dL_law__987 rfl rfl rfl ?_
  refine pn_cp (fun r9 h9 => pn_LKV dL_law__988 lm_L_153 (ct_X11_thrown Γ σ84 r9 h9) (by decide) qt_85 qk_85 rfl rfl (Nat.le_of_ble_eq_true rfl)) rfl (fun x85 => ?_)
  refine pn_iload dL_law__991 rfl rfl ?_
  refine pn_icmp_eq (tgt := 998) dL_law__993 rfl rfl (fun c86 => ?_) (fun c86 => ?_)
  · refine pn_iload dL_law__998 rfl rfl ?_
    refine pn_if_ne (tgt := 1015) dL_law__1000 rfl rfl (fun c87 => ?_) (fun c87 => ?_)
    · refine pn_aload_n dL_law__1003 rfl rfl rfl ?_
      refine pn_iconst dL_law__1004 rfl ic_0 ?_
      refine pn_lald dL_law__1005 rfl qt_96 qk_96 (by decide) ?_
      refine pn_iload dL_law__1006 rfl rfl ?_
      refine pn_i2l dL_law__1008 rfl ?_
      refine pn_lcmp dL_law__1009 rfl ?_
      refine pn_if_eq (tgt := 1015) dL_law__1010 rfl rfl (fun c88 => ?_) (fun c88 => ?_)
      · refine pn_goto (pc' := 2850) dL_law__1015 rfl ?_
        exact pn_wk (pn_leC rfl (pn_leC rfl (pn_leC rfl (pn_leC rfl (pn_leC rfl (pn_leN (pn_leN pn_le0))))))) (wL_law__2850 Γ L hL xs hX (rec23) (hrec23) l4 σ84)
      · refine pn_iconst dL_law__1013 rfl ic_0 ?_
        exact pn_iretv dL_law__1014 rfl rfl rfl
    · refine pn_goto (pc' := 2850) dL_law__1015 rfl ?_
      exact pn_wk (pn_leC rfl (pn_leC rfl (pn_leC rfl (pn_leC rfl (pn_leC rfl (pn_leN (pn_leN pn_le0))))))) (wL_law__2850 Γ L hL xs hX (rec23) (hrec23) l4 σ84)
  · refine pn_iconst dL_law__996 rfl ic_0 ?_
    exact pn_iretv dL_law__997 rfl rfl rfl

set_option maxRecDepth 20000 in
set_option maxHeartbeats 4000000 in
theorem wL_law__1018 (Γ : pn_G) (L : Nat) (hL : (pn_sc Γ).2.1 = L) (xs : (Nat → Int32)) (hX : (pn_sc Γ).2.2 = xs) (rec23 : Int32 → pn_S → Option (Int32 × pn_S × Nat)) (hrec23 : ∀ (l4 : Int32) (σ : pn_S), pn_W9 Γ 65 mL_law_ pn_w3 23 [.ref 5000, .ref 0, .ref 85, .ref 96, .int l4, .null, .null] [] σ (rec23 l4 σ)) (l4 : Int32) (σ : pn_S) : pn_W9 Γ 65 mL_law_ pn_w3 1018 [.ref 5000, .ref 0, .ref 85, .ref 96, .int l4, .null, .null] [] σ (fL_law__1018 L xs rec23 l4 σ) := by
  rw [fL_law__1018]
  refine pn_aload_n dL_law__1018 rfl rfl rfl ?_
  refine pn_aload_n dL_law__1019 rfl rfl rfl ?_
  refine pn_iload dL_law__1020 rfl rfl ?_
  refine pn_iconst dL_law__1022 rfl ic_1 ?_
  refine pn_iadd dL_law__1023 rfl ?_
  refine pn_sld hL hX dL_law__1024 rfl ?_
  refine pn_aload_n dL_law__1025 rfl rfl rfl ?_
  refine pn_iload dL_law__1026 rfl rfl ?_
  refine pn_iconst dL_law__1028 rfl ic_2 ?_
  refine pn_iadd dL_law__1029 rfl ?_
  refine pn_sld hL hX dL_law__1030 rfl ?_
  refine pn_aload_n dL_law__1031 rfl rfl rfl ?_
  refine pn_cw (fun r9 h9 => pn_LKH dL_law__1032 lm_L_191 (ct_L_give Γ (xs (Int32.toNatClampNeg (l4 + (1 : Int32)))) (xs (Int32.toNatClampNeg (l4 + (2 : Int32)))) σ r9 h9) (by decide) rfl rfl (Nat.le_of_ble_eq_true rfl)) rfl (fun x90 σ90 => ?_)
  refine pn_istore (ls' := [.ref 5000, .ref 0, .ref 85, .ref 96, .int l4, .int x90, .null]) dL_law__1035 rfl (Nat.le_of_ble_eq_true rfl) rfl ?_
  refine pn_aload_n dL_law__1037 rfl rfl rfl ?_
  refine pn_aload_n dL_law__1038 rfl rfl rfl ?_
  refine pn_iload dL_law__1039 rfl rfl ?_
  refine pn_iconst dL_law__1041 rfl ic_1 ?_
  refine pn_iadd dL_law__1042 rfl ?_
  refine pn_sld hL hX dL_law__1043 rfl ?_
  refine pn_aload_n dL_law__1044 rfl rfl rfl ?_
  refine pn_iload dL_law__1045 rfl rfl ?_
  refine pn_iconst dL_law__1047 rfl ic_2 ?_
  refine pn_iadd dL_law__1048 rfl ?_
  refine pn_sld hL hX dL_law__1049 rfl ?_
  refine pn_ci (fun r9 h9 => pn_LKV dL_law__1050 lm_L_193 (ct_X11_give Γ (xs (Int32.toNatClampNeg (l4 + (1 : Int32)))) (xs (Int32.toNatClampNeg (l4 + (2 : Int32)))) σ90 r9 h9) (by decide) qt_85 qk_85 rfl rfl (Nat.le_of_ble_eq_true rfl)) rfl (fun x91 σ91 => ?_)
  refine pn_istore (ls' := [.ref 5000, .ref 0, .ref 85, .ref 96, .int l4, .int x90, .int x91]) dL_law__1053 rfl (Nat.le_of_ble_eq_true rfl) rfl ?_
  refine pn_aload_n dL_law__1055 rfl rfl rfl ?_
  refine pn_cp (fun r9 h9 => pn_LKV dL_law__1056 lm_L_153 (ct_X11_thrown Γ σ91 r9 h9) (by decide) qt_85 qk_85 rfl rfl (Nat.le_of_ble_eq_true rfl)) rfl (fun x92 => ?_)
  refine pn_iload dL_law__1059 rfl rfl ?_
  refine pn_icmp_eq (tgt := 1066) dL_law__1061 rfl rfl (fun c93 => ?_) (fun c93 => ?_)
  · refine pn_iload dL_law__1066 rfl rfl ?_
    refine pn_if_ne (tgt := 1083) dL_law__1068 rfl rfl (fun c94 => ?_) (fun c94 => ?_)
    · refine pn_aload_n dL_law__1071 rfl rfl rfl ?_
      refine pn_iconst dL_law__1072 rfl ic_0 ?_
      refine pn_lald dL_law__1073 rfl qt_96 qk_96 (by decide) ?_
      refine pn_iload dL_law__1074 rfl rfl ?_
      refine pn_i2l dL_law__1076 rfl ?_
      refine pn_lcmp dL_law__1077 rfl ?_
      refine pn_if_eq (tgt := 1083) dL_law__1078 rfl rfl (fun c95 => ?_) (fun c95 => ?_)
      · refine pn_goto (pc' := 2850) dL_law__1083 rfl ?_
        exact pn_wk (pn_leC rfl (pn_leC rfl (pn_leC rfl (pn_leC rfl (pn_leC rfl (pn_leN (pn_leN pn_le0))))))) (wL_law__2850 Γ L hL xs hX (rec23) (hrec23) l4 σ91)
      · refine pn_iconst dL_law__1081 rfl ic_0 ?_
        exact pn_iretv dL_law__1082 rfl rfl rfl
    · refine pn_goto (pc' := 2850) dL_law__1083 rfl ?_
      exact pn_wk (pn_leC rfl (pn_leC rfl (pn_leC rfl (pn_leC rfl (pn_leC rfl (pn_leN (pn_leN pn_le0))))))) (wL_law__2850 Γ L hL xs hX (rec23) (hrec23) l4 σ91)
  · refine pn_iconst dL_law__1064 rfl ic_0 ?_
    exact pn_iretv dL_law__1065 rfl rfl rfl

set_option maxRecDepth 20000 in
set_option maxHeartbeats 4000000 in
theorem wL_law__1086 (Γ : pn_G) (L : Nat) (hL : (pn_sc Γ).2.1 = L) (xs : (Nat → Int32)) (hX : (pn_sc Γ).2.2 = xs) (rec23 : Int32 → pn_S → Option (Int32 × pn_S × Nat)) (hrec23 : ∀ (l4 : Int32) (σ : pn_S), pn_W9 Γ 65 mL_law_ pn_w3 23 [.ref 5000, .ref 0, .ref 85, .ref 96, .int l4, .null, .null] [] σ (rec23 l4 σ)) (l4 : Int32) (σ : pn_S) : pn_W9 Γ 65 mL_law_ pn_w3 1086 [.ref 5000, .ref 0, .ref 85, .ref 96, .int l4, .null, .null] [] σ (fL_law__1086 L xs rec23 l4 σ) := by
  rw [fL_law__1086]
  refine pn_aload_n dL_law__1086 rfl rfl rfl ?_
  refine pn_aload_n dL_law__1087 rfl rfl rfl ?_
  refine pn_iload dL_law__1088 rfl rfl ?_
  refine pn_iconst dL_law__1090 rfl ic_1 ?_
  refine pn_iadd dL_law__1091 rfl ?_
  refine pn_sld hL hX dL_law__1092 rfl ?_
  refine pn_aload_n dL_law__1093 rfl rfl rfl ?_
  refine pn_cw (fun r9 h9 => pn_LKH dL_law__1094 lm_L_194 (ct_L_nights Γ (xs (Int32.toNatClampNeg (l4 + (1 : Int32)))) σ r9 h9) (by decide) rfl rfl (Nat.le_of_ble_eq_true rfl)) rfl (fun x97 σ97 => ?_)
  refine pn_istore (ls' := [.ref 5000, .ref 0, .ref 85, .ref 96, .int l4, .int x97, .null]) dL_law__1097 rfl (Nat.le_of_ble_eq_true rfl) rfl ?_
  refine pn_aload_n dL_law__1099 rfl rfl rfl ?_
  refine pn_aload_n dL_law__1100 rfl rfl rfl ?_
  refine pn_iload dL_law__1101 rfl rfl ?_
  refine pn_iconst dL_law__1103 rfl ic_1 ?_
  refine pn_iadd dL_law__1104 rfl ?_
  refine pn_sld hL hX dL_law__1105 rfl ?_
  refine pn_ci (fun r9 h9 => pn_LKV dL_law__1106 lm_L_196 (ct_X11_nights Γ (xs (Int32.toNatClampNeg (l4 + (1 : Int32)))) σ97 r9 h9) (by decide) qt_85 qk_85 rfl rfl (Nat.le_of_ble_eq_true rfl)) rfl (fun x98 σ98 => ?_)
  refine pn_istore (ls' := [.ref 5000, .ref 0, .ref 85, .ref 96, .int l4, .int x97, .int x98]) dL_law__1109 rfl (Nat.le_of_ble_eq_true rfl) rfl ?_
  refine pn_aload_n dL_law__1111 rfl rfl rfl ?_
  refine pn_cp (fun r9 h9 => pn_LKV dL_law__1112 lm_L_153 (ct_X11_thrown Γ σ98 r9 h9) (by decide) qt_85 qk_85 rfl rfl (Nat.le_of_ble_eq_true rfl)) rfl (fun x99 => ?_)
  refine pn_iload dL_law__1115 rfl rfl ?_
  refine pn_icmp_eq (tgt := 1122) dL_law__1117 rfl rfl (fun c100 => ?_) (fun c100 => ?_)
  · refine pn_iload dL_law__1122 rfl rfl ?_
    refine pn_if_ne (tgt := 1139) dL_law__1124 rfl rfl (fun c101 => ?_) (fun c101 => ?_)
    · refine pn_aload_n dL_law__1127 rfl rfl rfl ?_
      refine pn_iconst dL_law__1128 rfl ic_0 ?_
      refine pn_lald dL_law__1129 rfl qt_96 qk_96 (by decide) ?_
      refine pn_iload dL_law__1130 rfl rfl ?_
      refine pn_i2l dL_law__1132 rfl ?_
      refine pn_lcmp dL_law__1133 rfl ?_
      refine pn_if_eq (tgt := 1139) dL_law__1134 rfl rfl (fun c102 => ?_) (fun c102 => ?_)
      · refine pn_goto (pc' := 2850) dL_law__1139 rfl ?_
        exact pn_wk (pn_leC rfl (pn_leC rfl (pn_leC rfl (pn_leC rfl (pn_leC rfl (pn_leN (pn_leN pn_le0))))))) (wL_law__2850 Γ L hL xs hX (rec23) (hrec23) l4 σ98)
      · refine pn_iconst dL_law__1137 rfl ic_0 ?_
        exact pn_iretv dL_law__1138 rfl rfl rfl
    · refine pn_goto (pc' := 2850) dL_law__1139 rfl ?_
      exact pn_wk (pn_leC rfl (pn_leC rfl (pn_leC rfl (pn_leC rfl (pn_leC rfl (pn_leN (pn_leN pn_le0))))))) (wL_law__2850 Γ L hL xs hX (rec23) (hrec23) l4 σ98)
  · refine pn_iconst dL_law__1120 rfl ic_0 ?_
    exact pn_iretv dL_law__1121 rfl rfl rfl

set_option maxRecDepth 20000 in
set_option maxHeartbeats 4000000 in
theorem wL_law__1142 (Γ : pn_G) (L : Nat) (hL : (pn_sc Γ).2.1 = L) (xs : (Nat → Int32)) (hX : (pn_sc Γ).2.2 = xs) (rec23 : Int32 → pn_S → Option (Int32 × pn_S × Nat)) (hrec23 : ∀ (l4 : Int32) (σ : pn_S), pn_W9 Γ 65 mL_law_ pn_w3 23 [.ref 5000, .ref 0, .ref 85, .ref 96, .int l4, .null, .null] [] σ (rec23 l4 σ)) (l4 : Int32) (σ : pn_S) : pn_W9 Γ 65 mL_law_ pn_w3 1142 [.ref 5000, .ref 0, .ref 85, .ref 96, .int l4, .null, .null] [] σ (fL_law__1142 L xs rec23 l4 σ) := by
  rw [fL_law__1142]
  refine pn_aload_n dL_law__1142 rfl rfl rfl ?_
  refine pn_aload_n dL_law__1143 rfl rfl rfl ?_
  refine pn_iload dL_law__1144 rfl rfl ?_
  refine pn_iconst dL_law__1146 rfl ic_1 ?_
  refine pn_iadd dL_law__1147 rfl ?_
  refine pn_sld hL hX dL_law__1148 rfl ?_
  refine pn_aload_n dL_law__1149 rfl rfl rfl ?_
  refine pn_cw (fun r9 h9 => pn_LKH dL_law__1150 lm_L_197 (ct_L_comes Γ (xs (Int32.toNatClampNeg (l4 + (1 : Int32)))) σ r9 h9) (by decide) rfl rfl (Nat.le_of_ble_eq_true rfl)) rfl (fun x104 σ104 => ?_)
  refine pn_istore (ls' := [.ref 5000, .ref 0, .ref 85, .ref 96, .int l4, .int x104, .null]) dL_law__1153 rfl (Nat.le_of_ble_eq_true rfl) rfl ?_
  refine pn_aload_n dL_law__1155 rfl rfl rfl ?_
  refine pn_aload_n dL_law__1156 rfl rfl rfl ?_
  refine pn_iload dL_law__1157 rfl rfl ?_
  refine pn_iconst dL_law__1159 rfl ic_1 ?_
  refine pn_iadd dL_law__1160 rfl ?_
  refine pn_sld hL hX dL_law__1161 rfl ?_
  refine pn_ci (fun r9 h9 => pn_LKV dL_law__1162 lm_L_199 (ct_X11_comes Γ (xs (Int32.toNatClampNeg (l4 + (1 : Int32)))) σ104 r9 h9) (by decide) qt_85 qk_85 rfl rfl (Nat.le_of_ble_eq_true rfl)) rfl (fun x105 σ105 => ?_)
  refine pn_istore (ls' := [.ref 5000, .ref 0, .ref 85, .ref 96, .int l4, .int x104, .int x105]) dL_law__1165 rfl (Nat.le_of_ble_eq_true rfl) rfl ?_
  refine pn_aload_n dL_law__1167 rfl rfl rfl ?_
  refine pn_cp (fun r9 h9 => pn_LKV dL_law__1168 lm_L_153 (ct_X11_thrown Γ σ105 r9 h9) (by decide) qt_85 qk_85 rfl rfl (Nat.le_of_ble_eq_true rfl)) rfl (fun x106 => ?_)
  refine pn_iload dL_law__1171 rfl rfl ?_
  refine pn_icmp_eq (tgt := 1178) dL_law__1173 rfl rfl (fun c107 => ?_) (fun c107 => ?_)
  · refine pn_iload dL_law__1178 rfl rfl ?_
    refine pn_if_ne (tgt := 1195) dL_law__1180 rfl rfl (fun c108 => ?_) (fun c108 => ?_)
    · refine pn_aload_n dL_law__1183 rfl rfl rfl ?_
      refine pn_iconst dL_law__1184 rfl ic_0 ?_
      refine pn_lald dL_law__1185 rfl qt_96 qk_96 (by decide) ?_
      refine pn_iload dL_law__1186 rfl rfl ?_
      refine pn_i2l dL_law__1188 rfl ?_
      refine pn_lcmp dL_law__1189 rfl ?_
      refine pn_if_eq (tgt := 1195) dL_law__1190 rfl rfl (fun c109 => ?_) (fun c109 => ?_)
      · refine pn_goto (pc' := 2850) dL_law__1195 rfl ?_
        exact pn_wk (pn_leC rfl (pn_leC rfl (pn_leC rfl (pn_leC rfl (pn_leC rfl (pn_leN (pn_leN pn_le0))))))) (wL_law__2850 Γ L hL xs hX (rec23) (hrec23) l4 σ105)
      · refine pn_iconst dL_law__1193 rfl ic_0 ?_
        exact pn_iretv dL_law__1194 rfl rfl rfl
    · refine pn_goto (pc' := 2850) dL_law__1195 rfl ?_
      exact pn_wk (pn_leC rfl (pn_leC rfl (pn_leC rfl (pn_leC rfl (pn_leC rfl (pn_leN (pn_leN pn_le0))))))) (wL_law__2850 Γ L hL xs hX (rec23) (hrec23) l4 σ105)
  · refine pn_iconst dL_law__1176 rfl ic_0 ?_
    exact pn_iretv dL_law__1177 rfl rfl rfl

set_option maxRecDepth 20000 in
set_option maxHeartbeats 4000000 in
theorem wL_law__1198 (Γ : pn_G) (L : Nat) (hL : (pn_sc Γ).2.1 = L) (xs : (Nat → Int32)) (hX : (pn_sc Γ).2.2 = xs) (rec23 : Int32 → pn_S → Option (Int32 × pn_S × Nat)) (hrec23 : ∀ (l4 : Int32) (σ : pn_S), pn_W9 Γ 65 mL_law_ pn_w3 23 [.ref 5000, .ref 0, .ref 85, .ref 96, .int l4, .null, .null] [] σ (rec23 l4 σ)) (l4 : Int32) (σ : pn_S) : pn_W9 Γ 65 mL_law_ pn_w3 1198 [.ref 5000, .ref 0, .ref 85, .ref 96, .int l4, .null, .null] [] σ (fL_law__1198 L xs rec23 l4 σ) := by
  rw [fL_law__1198]
  refine pn_aload_n dL_law__1198 rfl rfl rfl ?_
  refine pn_aload_n dL_law__1199 rfl rfl rfl ?_
  refine pn_iload dL_law__1200 rfl rfl ?_
  refine pn_iconst dL_law__1202 rfl ic_1 ?_
  refine pn_iadd dL_law__1203 rfl ?_
  refine pn_sld hL hX dL_law__1204 rfl ?_
  refine pn_aload_n dL_law__1205 rfl rfl rfl ?_
  refine pn_cw (fun r9 h9 => pn_LKH dL_law__1206 lm_L_200 (ct_L_rounds Γ (xs (Int32.toNatClampNeg (l4 + (1 : Int32)))) σ r9 h9) (by decide) rfl rfl (Nat.le_of_ble_eq_true rfl)) rfl (fun x111 σ111 => ?_)
  refine pn_istore (ls' := [.ref 5000, .ref 0, .ref 85, .ref 96, .int l4, .int x111, .null]) dL_law__1209 rfl (Nat.le_of_ble_eq_true rfl) rfl ?_
  refine pn_aload_n dL_law__1211 rfl rfl rfl ?_
  refine pn_aload_n dL_law__1212 rfl rfl rfl ?_
  refine pn_iload dL_law__1213 rfl rfl ?_
  refine pn_iconst dL_law__1215 rfl ic_1 ?_
  refine pn_iadd dL_law__1216 rfl ?_
  refine pn_sld hL hX dL_law__1217 rfl ?_
  refine pn_ci (fun r9 h9 => pn_LKV dL_law__1218 lm_L_202 (ct_X11_rounds Γ (xs (Int32.toNatClampNeg (l4 + (1 : Int32)))) σ111 r9 h9) (by decide) qt_85 qk_85 rfl rfl (Nat.le_of_ble_eq_true rfl)) rfl (fun x112 σ112 => ?_)
  refine pn_istore (ls' := [.ref 5000, .ref 0, .ref 85, .ref 96, .int l4, .int x111, .int x112]) dL_law__1221 rfl (Nat.le_of_ble_eq_true rfl) rfl ?_
  refine pn_aload_n dL_law__1223 rfl rfl rfl ?_
  refine pn_cp (fun r9 h9 => pn_LKV dL_law__1224 lm_L_153 (ct_X11_thrown Γ σ112 r9 h9) (by decide) qt_85 qk_85 rfl rfl (Nat.le_of_ble_eq_true rfl)) rfl (fun x113 => ?_)
  refine pn_iload dL_law__1227 rfl rfl ?_
  refine pn_icmp_eq (tgt := 1234) dL_law__1229 rfl rfl (fun c114 => ?_) (fun c114 => ?_)
  · refine pn_iload dL_law__1234 rfl rfl ?_
    refine pn_if_ne (tgt := 1251) dL_law__1236 rfl rfl (fun c115 => ?_) (fun c115 => ?_)
    · refine pn_aload_n dL_law__1239 rfl rfl rfl ?_
      refine pn_iconst dL_law__1240 rfl ic_0 ?_
      refine pn_lald dL_law__1241 rfl qt_96 qk_96 (by decide) ?_
      refine pn_iload dL_law__1242 rfl rfl ?_
      refine pn_i2l dL_law__1244 rfl ?_
      refine pn_lcmp dL_law__1245 rfl ?_
      refine pn_if_eq (tgt := 1251) dL_law__1246 rfl rfl (fun c116 => ?_) (fun c116 => ?_)
      · refine pn_goto (pc' := 2850) dL_law__1251 rfl ?_
        exact pn_wk (pn_leC rfl (pn_leC rfl (pn_leC rfl (pn_leC rfl (pn_leC rfl (pn_leN (pn_leN pn_le0))))))) (wL_law__2850 Γ L hL xs hX (rec23) (hrec23) l4 σ112)
      · refine pn_iconst dL_law__1249 rfl ic_0 ?_
        exact pn_iretv dL_law__1250 rfl rfl rfl
    · refine pn_goto (pc' := 2850) dL_law__1251 rfl ?_
      exact pn_wk (pn_leC rfl (pn_leC rfl (pn_leC rfl (pn_leC rfl (pn_leC rfl (pn_leN (pn_leN pn_le0))))))) (wL_law__2850 Γ L hL xs hX (rec23) (hrec23) l4 σ112)
  · refine pn_iconst dL_law__1232 rfl ic_0 ?_
    exact pn_iretv dL_law__1233 rfl rfl rfl

set_option maxRecDepth 20000 in
set_option maxHeartbeats 4000000 in
theorem wL_law__1254 (Γ : pn_G) (L : Nat) (hL : (pn_sc Γ).2.1 = L) (xs : (Nat → Int32)) (hX : (pn_sc Γ).2.2 = xs) (rec23 : Int32 → pn_S → Option (Int32 × pn_S × Nat)) (hrec23 : ∀ (l4 : Int32) (σ : pn_S), pn_W9 Γ 65 mL_law_ pn_w3 23 [.ref 5000, .ref 0, .ref 85, .ref 96, .int l4, .null, .null] [] σ (rec23 l4 σ)) (l4 : Int32) (σ : pn_S) : pn_W9 Γ 65 mL_law_ pn_w3 1254 [.ref 5000, .ref 0, .ref 85, .ref 96, .int l4, .null, .null] [] σ (fL_law__1254 L xs rec23 l4 σ) := by
  rw [fL_law__1254]
  refine pn_aload_n dL_law__1254 rfl rfl rfl ?_
  refine pn_aload_n dL_law__1255 rfl rfl rfl ?_
  refine pn_iload dL_law__1256 rfl rfl ?_
  refine pn_iconst dL_law__1258 rfl ic_1 ?_
  refine pn_iadd dL_law__1259 rfl ?_
  refine pn_sld hL hX dL_law__1260 rfl ?_
  refine pn_aload_n dL_law__1261 rfl rfl rfl ?_
  refine pn_iload dL_law__1262 rfl rfl ?_
  refine pn_iconst dL_law__1264 rfl ic_2 ?_
  refine pn_iadd dL_law__1265 rfl ?_
  refine pn_sld hL hX dL_law__1266 rfl ?_
  refine pn_aload_n dL_law__1267 rfl rfl rfl ?_
  refine pn_cw (fun r9 h9 => pn_LKH dL_law__1268 lm_L_203 (ct_L_when Γ (xs (Int32.toNatClampNeg (l4 + (1 : Int32)))) (xs (Int32.toNatClampNeg (l4 + (2 : Int32)))) σ r9 h9) (by decide) rfl rfl (Nat.le_of_ble_eq_true rfl)) rfl (fun x118 σ118 => ?_)
  refine pn_istore (ls' := [.ref 5000, .ref 0, .ref 85, .ref 96, .int l4, .int x118, .null]) dL_law__1271 rfl (Nat.le_of_ble_eq_true rfl) rfl ?_
  refine pn_aload_n dL_law__1273 rfl rfl rfl ?_
  refine pn_aload_n dL_law__1274 rfl rfl rfl ?_
  refine pn_iload dL_law__1275 rfl rfl ?_
  refine pn_iconst dL_law__1277 rfl ic_1 ?_
  refine pn_iadd dL_law__1278 rfl ?_
  refine pn_sld hL hX dL_law__1279 rfl ?_
  refine pn_aload_n dL_law__1280 rfl rfl rfl ?_
  refine pn_iload dL_law__1281 rfl rfl ?_
  refine pn_iconst dL_law__1283 rfl ic_2 ?_
  refine pn_iadd dL_law__1284 rfl ?_
  refine pn_sld hL hX dL_law__1285 rfl ?_
  refine pn_ci (fun r9 h9 => pn_LKV dL_law__1286 lm_L_205 (ct_X11_when Γ (xs (Int32.toNatClampNeg (l4 + (1 : Int32)))) (xs (Int32.toNatClampNeg (l4 + (2 : Int32)))) σ118 r9 h9) (by decide) qt_85 qk_85 rfl rfl (Nat.le_of_ble_eq_true rfl)) rfl (fun x119 σ119 => ?_)
  refine pn_istore (ls' := [.ref 5000, .ref 0, .ref 85, .ref 96, .int l4, .int x118, .int x119]) dL_law__1289 rfl (Nat.le_of_ble_eq_true rfl) rfl ?_
  refine pn_aload_n dL_law__1291 rfl rfl rfl ?_
  refine pn_cp (fun r9 h9 => pn_LKV dL_law__1292 lm_L_153 (ct_X11_thrown Γ σ119 r9 h9) (by decide) qt_85 qk_85 rfl rfl (Nat.le_of_ble_eq_true rfl)) rfl (fun x120 => ?_)
  refine pn_iload dL_law__1295 rfl rfl ?_
  refine pn_icmp_eq (tgt := 1302) dL_law__1297 rfl rfl (fun c121 => ?_) (fun c121 => ?_)
  · refine pn_iload dL_law__1302 rfl rfl ?_
    refine pn_if_ne (tgt := 1319) dL_law__1304 rfl rfl (fun c122 => ?_) (fun c122 => ?_)
    · refine pn_aload_n dL_law__1307 rfl rfl rfl ?_
      refine pn_iconst dL_law__1308 rfl ic_0 ?_
      refine pn_lald dL_law__1309 rfl qt_96 qk_96 (by decide) ?_
      refine pn_iload dL_law__1310 rfl rfl ?_
      refine pn_i2l dL_law__1312 rfl ?_
      refine pn_lcmp dL_law__1313 rfl ?_
      refine pn_if_eq (tgt := 1319) dL_law__1314 rfl rfl (fun c123 => ?_) (fun c123 => ?_)
      · refine pn_goto (pc' := 2850) dL_law__1319 rfl ?_
        exact pn_wk (pn_leC rfl (pn_leC rfl (pn_leC rfl (pn_leC rfl (pn_leC rfl (pn_leN (pn_leN pn_le0))))))) (wL_law__2850 Γ L hL xs hX (rec23) (hrec23) l4 σ119)
      · refine pn_iconst dL_law__1317 rfl ic_0 ?_
        exact pn_iretv dL_law__1318 rfl rfl rfl
    · refine pn_goto (pc' := 2850) dL_law__1319 rfl ?_
      exact pn_wk (pn_leC rfl (pn_leC rfl (pn_leC rfl (pn_leC rfl (pn_leC rfl (pn_leN (pn_leN pn_le0))))))) (wL_law__2850 Γ L hL xs hX (rec23) (hrec23) l4 σ119)
  · refine pn_iconst dL_law__1300 rfl ic_0 ?_
    exact pn_iretv dL_law__1301 rfl rfl rfl

set_option maxRecDepth 20000 in
set_option maxHeartbeats 4000000 in
theorem wL_law__1322 (Γ : pn_G) (L : Nat) (hL : (pn_sc Γ).2.1 = L) (xs : (Nat → Int32)) (hX : (pn_sc Γ).2.2 = xs) (rec23 : Int32 → pn_S → Option (Int32 × pn_S × Nat)) (hrec23 : ∀ (l4 : Int32) (σ : pn_S), pn_W9 Γ 65 mL_law_ pn_w3 23 [.ref 5000, .ref 0, .ref 85, .ref 96, .int l4, .null, .null] [] σ (rec23 l4 σ)) (l4 : Int32) (σ : pn_S) : pn_W9 Γ 65 mL_law_ pn_w3 1322 [.ref 5000, .ref 0, .ref 85, .ref 96, .int l4, .null, .null] [] σ (fL_law__1322 L xs rec23 l4 σ) := by
  rw [fL_law__1322]
  refine pn_aload_n dL_law__1322 rfl rfl rfl ?_
  refine pn_aload_n dL_law__1323 rfl rfl rfl ?_
  refine pn_iload dL_law__1324 rfl rfl ?_
  refine pn_iconst dL_law__1326 rfl ic_1 ?_
  refine pn_iadd dL_law__1327 rfl ?_
  refine pn_sld hL hX dL_law__1328 rfl ?_
  refine pn_aload_n dL_law__1329 rfl rfl rfl ?_
  refine pn_cw (fun r9 h9 => pn_LKH dL_law__1330 lm_L_206 (ct_L_loud Γ (xs (Int32.toNatClampNeg (l4 + (1 : Int32)))) σ r9 h9) (by decide) rfl rfl (Nat.le_of_ble_eq_true rfl)) rfl (fun x125 σ125 => ?_)
  refine pn_istore (ls' := [.ref 5000, .ref 0, .ref 85, .ref 96, .int l4, .int x125, .null]) dL_law__1333 rfl (Nat.le_of_ble_eq_true rfl) rfl ?_
  refine pn_aload_n dL_law__1335 rfl rfl rfl ?_
  refine pn_aload_n dL_law__1336 rfl rfl rfl ?_
  refine pn_iload dL_law__1337 rfl rfl ?_
  refine pn_iconst dL_law__1339 rfl ic_1 ?_
  refine pn_iadd dL_law__1340 rfl ?_
  refine pn_sld hL hX dL_law__1341 rfl ?_
  refine pn_ci (fun r9 h9 => pn_LKV dL_law__1342 lm_L_208 (ct_X11_loud Γ (xs (Int32.toNatClampNeg (l4 + (1 : Int32)))) σ125 r9 h9) (by decide) qt_85 qk_85 rfl rfl (Nat.le_of_ble_eq_true rfl)) rfl (fun x126 σ126 => ?_)
  refine pn_istore (ls' := [.ref 5000, .ref 0, .ref 85, .ref 96, .int l4, .int x125, .int x126]) dL_law__1345 rfl (Nat.le_of_ble_eq_true rfl) rfl ?_
  refine pn_aload_n dL_law__1347 rfl rfl rfl ?_
  refine pn_cp (fun r9 h9 => pn_LKV dL_law__1348 lm_L_153 (ct_X11_thrown Γ σ126 r9 h9) (by decide) qt_85 qk_85 rfl rfl (Nat.le_of_ble_eq_true rfl)) rfl (fun x127 => ?_)
  refine pn_iload dL_law__1351 rfl rfl ?_
  refine pn_icmp_eq (tgt := 1358) dL_law__1353 rfl rfl (fun c128 => ?_) (fun c128 => ?_)
  · refine pn_iload dL_law__1358 rfl rfl ?_
    refine pn_if_ne (tgt := 1375) dL_law__1360 rfl rfl (fun c129 => ?_) (fun c129 => ?_)
    · refine pn_aload_n dL_law__1363 rfl rfl rfl ?_
      refine pn_iconst dL_law__1364 rfl ic_0 ?_
      refine pn_lald dL_law__1365 rfl qt_96 qk_96 (by decide) ?_
      refine pn_iload dL_law__1366 rfl rfl ?_
      refine pn_i2l dL_law__1368 rfl ?_
      refine pn_lcmp dL_law__1369 rfl ?_
      refine pn_if_eq (tgt := 1375) dL_law__1370 rfl rfl (fun c130 => ?_) (fun c130 => ?_)
      · refine pn_goto (pc' := 2850) dL_law__1375 rfl ?_
        exact pn_wk (pn_leC rfl (pn_leC rfl (pn_leC rfl (pn_leC rfl (pn_leC rfl (pn_leN (pn_leN pn_le0))))))) (wL_law__2850 Γ L hL xs hX (rec23) (hrec23) l4 σ126)
      · refine pn_iconst dL_law__1373 rfl ic_0 ?_
        exact pn_iretv dL_law__1374 rfl rfl rfl
    · refine pn_goto (pc' := 2850) dL_law__1375 rfl ?_
      exact pn_wk (pn_leC rfl (pn_leC rfl (pn_leC rfl (pn_leC rfl (pn_leC rfl (pn_leN (pn_leN pn_le0))))))) (wL_law__2850 Γ L hL xs hX (rec23) (hrec23) l4 σ126)
  · refine pn_iconst dL_law__1356 rfl ic_0 ?_
    exact pn_iretv dL_law__1357 rfl rfl rfl

set_option maxRecDepth 20000 in
set_option maxHeartbeats 4000000 in
theorem wL_law__1378 (Γ : pn_G) (L : Nat) (hL : (pn_sc Γ).2.1 = L) (xs : (Nat → Int32)) (hX : (pn_sc Γ).2.2 = xs) (rec23 : Int32 → pn_S → Option (Int32 × pn_S × Nat)) (hrec23 : ∀ (l4 : Int32) (σ : pn_S), pn_W9 Γ 65 mL_law_ pn_w3 23 [.ref 5000, .ref 0, .ref 85, .ref 96, .int l4, .null, .null] [] σ (rec23 l4 σ)) (l4 : Int32) (σ : pn_S) : pn_W9 Γ 65 mL_law_ pn_w3 1378 [.ref 5000, .ref 0, .ref 85, .ref 96, .int l4, .null, .null] [] σ (fL_law__1378 L xs rec23 l4 σ) := by
  rw [fL_law__1378]
  refine pn_aload_n dL_law__1378 rfl rfl rfl ?_
  refine pn_aload_n dL_law__1379 rfl rfl rfl ?_
  refine pn_iload dL_law__1380 rfl rfl ?_
  refine pn_iconst dL_law__1382 rfl ic_1 ?_
  refine pn_iadd dL_law__1383 rfl ?_
  refine pn_sld hL hX dL_law__1384 rfl ?_
  refine pn_aload_n dL_law__1385 rfl rfl rfl ?_
  refine pn_iload dL_law__1386 rfl rfl ?_
  refine pn_iconst dL_law__1388 rfl ic_2 ?_
  refine pn_iadd dL_law__1389 rfl ?_
  refine pn_sld hL hX dL_law__1390 rfl ?_
  refine pn_aload_n dL_law__1391 rfl rfl rfl ?_
  refine pn_cw (fun r9 h9 => pn_LKH dL_law__1392 lm_L_209 (ct_L_fewest Γ (xs (Int32.toNatClampNeg (l4 + (1 : Int32)))) (xs (Int32.toNatClampNeg (l4 + (2 : Int32)))) σ r9 h9) (by decide) rfl rfl (Nat.le_of_ble_eq_true rfl)) rfl (fun x132 σ132 => ?_)
  refine pn_istore (ls' := [.ref 5000, .ref 0, .ref 85, .ref 96, .int l4, .int x132, .null]) dL_law__1395 rfl (Nat.le_of_ble_eq_true rfl) rfl ?_
  refine pn_aload_n dL_law__1397 rfl rfl rfl ?_
  refine pn_aload_n dL_law__1398 rfl rfl rfl ?_
  refine pn_iload dL_law__1399 rfl rfl ?_
  refine pn_iconst dL_law__1401 rfl ic_1 ?_
  refine pn_iadd dL_law__1402 rfl ?_
  refine pn_sld hL hX dL_law__1403 rfl ?_
  refine pn_aload_n dL_law__1404 rfl rfl rfl ?_
  refine pn_iload dL_law__1405 rfl rfl ?_
  refine pn_iconst dL_law__1407 rfl ic_2 ?_
  refine pn_iadd dL_law__1408 rfl ?_
  refine pn_sld hL hX dL_law__1409 rfl ?_
  refine pn_ci (fun r9 h9 => pn_LKV dL_law__1410 lm_L_211 (ct_X11_fewest Γ (xs (Int32.toNatClampNeg (l4 + (1 : Int32)))) (xs (Int32.toNatClampNeg (l4 + (2 : Int32)))) σ132 r9 h9) (by decide) qt_85 qk_85 rfl rfl (Nat.le_of_ble_eq_true rfl)) rfl (fun x133 σ133 => ?_)
  refine pn_istore (ls' := [.ref 5000, .ref 0, .ref 85, .ref 96, .int l4, .int x132, .int x133]) dL_law__1413 rfl (Nat.le_of_ble_eq_true rfl) rfl ?_
  refine pn_aload_n dL_law__1415 rfl rfl rfl ?_
  refine pn_cp (fun r9 h9 => pn_LKV dL_law__1416 lm_L_153 (ct_X11_thrown Γ σ133 r9 h9) (by decide) qt_85 qk_85 rfl rfl (Nat.le_of_ble_eq_true rfl)) rfl (fun x134 => ?_)
  refine pn_iload dL_law__1419 rfl rfl ?_
  refine pn_icmp_eq (tgt := 1426) dL_law__1421 rfl rfl (fun c135 => ?_) (fun c135 => ?_)
  · refine pn_iload dL_law__1426 rfl rfl ?_
    refine pn_if_ne (tgt := 1443) dL_law__1428 rfl rfl (fun c136 => ?_) (fun c136 => ?_)
    · refine pn_aload_n dL_law__1431 rfl rfl rfl ?_
      refine pn_iconst dL_law__1432 rfl ic_0 ?_
      refine pn_lald dL_law__1433 rfl qt_96 qk_96 (by decide) ?_
      refine pn_iload dL_law__1434 rfl rfl ?_
      refine pn_i2l dL_law__1436 rfl ?_
      refine pn_lcmp dL_law__1437 rfl ?_
      refine pn_if_eq (tgt := 1443) dL_law__1438 rfl rfl (fun c137 => ?_) (fun c137 => ?_)
      · refine pn_goto (pc' := 2850) dL_law__1443 rfl ?_
        exact pn_wk (pn_leC rfl (pn_leC rfl (pn_leC rfl (pn_leC rfl (pn_leC rfl (pn_leN (pn_leN pn_le0))))))) (wL_law__2850 Γ L hL xs hX (rec23) (hrec23) l4 σ133)
      · refine pn_iconst dL_law__1441 rfl ic_0 ?_
        exact pn_iretv dL_law__1442 rfl rfl rfl
    · refine pn_goto (pc' := 2850) dL_law__1443 rfl ?_
      exact pn_wk (pn_leC rfl (pn_leC rfl (pn_leC rfl (pn_leC rfl (pn_leC rfl (pn_leN (pn_leN pn_le0))))))) (wL_law__2850 Γ L hL xs hX (rec23) (hrec23) l4 σ133)
  · refine pn_iconst dL_law__1424 rfl ic_0 ?_
    exact pn_iretv dL_law__1425 rfl rfl rfl

set_option maxRecDepth 20000 in
set_option maxHeartbeats 4000000 in
theorem wL_law__1446 (Γ : pn_G) (L : Nat) (hL : (pn_sc Γ).2.1 = L) (xs : (Nat → Int32)) (hX : (pn_sc Γ).2.2 = xs) (rec23 : Int32 → pn_S → Option (Int32 × pn_S × Nat)) (hrec23 : ∀ (l4 : Int32) (σ : pn_S), pn_W9 Γ 65 mL_law_ pn_w3 23 [.ref 5000, .ref 0, .ref 85, .ref 96, .int l4, .null, .null] [] σ (rec23 l4 σ)) (l4 : Int32) (σ : pn_S) : pn_W9 Γ 65 mL_law_ pn_w3 1446 [.ref 5000, .ref 0, .ref 85, .ref 96, .int l4, .null, .null] [] σ (fL_law__1446 L xs rec23 l4 σ) := by
  rw [fL_law__1446]
  refine pn_aload_n dL_law__1446 rfl rfl rfl ?_
  refine pn_aload_n dL_law__1447 rfl rfl rfl ?_
  refine pn_iload dL_law__1448 rfl rfl ?_
  refine pn_iconst dL_law__1450 rfl ic_1 ?_
  refine pn_iadd dL_law__1451 rfl ?_
  refine pn_sld hL hX dL_law__1452 rfl ?_
  refine pn_aload_n dL_law__1453 rfl rfl rfl ?_
  refine pn_cw (fun r9 h9 => pn_LKH dL_law__1454 lm_L_212 (ct_L_keep Γ (xs (Int32.toNatClampNeg (l4 + (1 : Int32)))) σ r9 h9) (by decide) rfl rfl (Nat.le_of_ble_eq_true rfl)) rfl (fun x139 σ139 => ?_)
  refine pn_istore (ls' := [.ref 5000, .ref 0, .ref 85, .ref 96, .int l4, .int x139, .null]) dL_law__1457 rfl (Nat.le_of_ble_eq_true rfl) rfl ?_
  refine pn_aload_n dL_law__1459 rfl rfl rfl ?_
  refine pn_aload_n dL_law__1460 rfl rfl rfl ?_
  refine pn_iload dL_law__1461 rfl rfl ?_
  refine pn_iconst dL_law__1463 rfl ic_1 ?_
  refine pn_iadd dL_law__1464 rfl ?_
  refine pn_sld hL hX dL_law__1465 rfl ?_
  refine pn_ci (fun r9 h9 => pn_LKV dL_law__1466 lm_L_214 (ct_X11_keep Γ (xs (Int32.toNatClampNeg (l4 + (1 : Int32)))) σ139 r9 h9) (by decide) qt_85 qk_85 rfl rfl (Nat.le_of_ble_eq_true rfl)) rfl (fun x140 σ140 => ?_)
  refine pn_istore (ls' := [.ref 5000, .ref 0, .ref 85, .ref 96, .int l4, .int x139, .int x140]) dL_law__1469 rfl (Nat.le_of_ble_eq_true rfl) rfl ?_
  refine pn_aload_n dL_law__1471 rfl rfl rfl ?_
  refine pn_cp (fun r9 h9 => pn_LKV dL_law__1472 lm_L_153 (ct_X11_thrown Γ σ140 r9 h9) (by decide) qt_85 qk_85 rfl rfl (Nat.le_of_ble_eq_true rfl)) rfl (fun x141 => ?_)
  refine pn_iload dL_law__1475 rfl rfl ?_
  refine pn_icmp_eq (tgt := 1482) dL_law__1477 rfl rfl (fun c142 => ?_) (fun c142 => ?_)
  · refine pn_iload dL_law__1482 rfl rfl ?_
    refine pn_if_ne (tgt := 1499) dL_law__1484 rfl rfl (fun c143 => ?_) (fun c143 => ?_)
    · refine pn_aload_n dL_law__1487 rfl rfl rfl ?_
      refine pn_iconst dL_law__1488 rfl ic_0 ?_
      refine pn_lald dL_law__1489 rfl qt_96 qk_96 (by decide) ?_
      refine pn_iload dL_law__1490 rfl rfl ?_
      refine pn_i2l dL_law__1492 rfl ?_
      refine pn_lcmp dL_law__1493 rfl ?_
      refine pn_if_eq (tgt := 1499) dL_law__1494 rfl rfl (fun c144 => ?_) (fun c144 => ?_)
      · refine pn_goto (pc' := 2850) dL_law__1499 rfl ?_
        exact pn_wk (pn_leC rfl (pn_leC rfl (pn_leC rfl (pn_leC rfl (pn_leC rfl (pn_leN (pn_leN pn_le0))))))) (wL_law__2850 Γ L hL xs hX (rec23) (hrec23) l4 σ140)
      · refine pn_iconst dL_law__1497 rfl ic_0 ?_
        exact pn_iretv dL_law__1498 rfl rfl rfl
    · refine pn_goto (pc' := 2850) dL_law__1499 rfl ?_
      exact pn_wk (pn_leC rfl (pn_leC rfl (pn_leC rfl (pn_leC rfl (pn_leC rfl (pn_leN (pn_leN pn_le0))))))) (wL_law__2850 Γ L hL xs hX (rec23) (hrec23) l4 σ140)
  · refine pn_iconst dL_law__1480 rfl ic_0 ?_
    exact pn_iretv dL_law__1481 rfl rfl rfl

set_option maxRecDepth 20000 in
set_option maxHeartbeats 4000000 in
theorem wL_law__1502 (Γ : pn_G) (L : Nat) (hL : (pn_sc Γ).2.1 = L) (xs : (Nat → Int32)) (hX : (pn_sc Γ).2.2 = xs) (rec23 : Int32 → pn_S → Option (Int32 × pn_S × Nat)) (hrec23 : ∀ (l4 : Int32) (σ : pn_S), pn_W9 Γ 65 mL_law_ pn_w3 23 [.ref 5000, .ref 0, .ref 85, .ref 96, .int l4, .null, .null] [] σ (rec23 l4 σ)) (l4 : Int32) (σ : pn_S) : pn_W9 Γ 65 mL_law_ pn_w3 1502 [.ref 5000, .ref 0, .ref 85, .ref 96, .int l4, .null, .null] [] σ (fL_law__1502 L xs rec23 l4 σ) := by
  rw [fL_law__1502]
  refine pn_aload_n dL_law__1502 rfl rfl rfl ?_
  refine pn_aload_n dL_law__1503 rfl rfl rfl ?_
  refine pn_iload dL_law__1504 rfl rfl ?_
  refine pn_iconst dL_law__1506 rfl ic_1 ?_
  refine pn_iadd dL_law__1507 rfl ?_
  refine pn_sld hL hX dL_law__1508 rfl ?_
  refine pn_aload_n dL_law__1509 rfl rfl rfl ?_
  refine pn_cw (fun r9 h9 => pn_LKH dL_law__1510 lm_L_215 (ct_L_tips Γ (xs (Int32.toNatClampNeg (l4 + (1 : Int32)))) σ r9 h9) (by decide) rfl rfl (Nat.le_of_ble_eq_true rfl)) rfl (fun x146 σ146 => ?_)
  refine pn_istore (ls' := [.ref 5000, .ref 0, .ref 85, .ref 96, .int l4, .int x146, .null]) dL_law__1513 rfl (Nat.le_of_ble_eq_true rfl) rfl ?_
  refine pn_aload_n dL_law__1515 rfl rfl rfl ?_
  refine pn_aload_n dL_law__1516 rfl rfl rfl ?_
  refine pn_iload dL_law__1517 rfl rfl ?_
  refine pn_iconst dL_law__1519 rfl ic_1 ?_
  refine pn_iadd dL_law__1520 rfl ?_
  refine pn_sld hL hX dL_law__1521 rfl ?_
  refine pn_ci (fun r9 h9 => pn_LKV dL_law__1522 lm_L_217 (ct_X11_tips Γ (xs (Int32.toNatClampNeg (l4 + (1 : Int32)))) σ146 r9 h9) (by decide) qt_85 qk_85 rfl rfl (Nat.le_of_ble_eq_true rfl)) rfl (fun x147 σ147 => ?_)
  refine pn_istore (ls' := [.ref 5000, .ref 0, .ref 85, .ref 96, .int l4, .int x146, .int x147]) dL_law__1525 rfl (Nat.le_of_ble_eq_true rfl) rfl ?_
  refine pn_aload_n dL_law__1527 rfl rfl rfl ?_
  refine pn_cp (fun r9 h9 => pn_LKV dL_law__1528 lm_L_153 (ct_X11_thrown Γ σ147 r9 h9) (by decide) qt_85 qk_85 rfl rfl (Nat.le_of_ble_eq_true rfl)) rfl (fun x148 => ?_)
  refine pn_iload dL_law__1531 rfl rfl ?_
  refine pn_icmp_eq (tgt := 1538) dL_law__1533 rfl rfl (fun c149 => ?_) (fun c149 => ?_)
  · refine pn_iload dL_law__1538 rfl rfl ?_
    refine pn_if_ne (tgt := 1555) dL_law__1540 rfl rfl (fun c150 => ?_) (fun c150 => ?_)
    · refine pn_aload_n dL_law__1543 rfl rfl rfl ?_
      refine pn_iconst dL_law__1544 rfl ic_0 ?_
      refine pn_lald dL_law__1545 rfl qt_96 qk_96 (by decide) ?_
      refine pn_iload dL_law__1546 rfl rfl ?_
      refine pn_i2l dL_law__1548 rfl ?_
      refine pn_lcmp dL_law__1549 rfl ?_
      refine pn_if_eq (tgt := 1555) dL_law__1550 rfl rfl (fun c151 => ?_) (fun c151 => ?_)
      · refine pn_goto (pc' := 2850) dL_law__1555 rfl ?_
        exact pn_wk (pn_leC rfl (pn_leC rfl (pn_leC rfl (pn_leC rfl (pn_leC rfl (pn_leN (pn_leN pn_le0))))))) (wL_law__2850 Γ L hL xs hX (rec23) (hrec23) l4 σ147)
      · refine pn_iconst dL_law__1553 rfl ic_0 ?_
        exact pn_iretv dL_law__1554 rfl rfl rfl
    · refine pn_goto (pc' := 2850) dL_law__1555 rfl ?_
      exact pn_wk (pn_leC rfl (pn_leC rfl (pn_leC rfl (pn_leC rfl (pn_leC rfl (pn_leN (pn_leN pn_le0))))))) (wL_law__2850 Γ L hL xs hX (rec23) (hrec23) l4 σ147)
  · refine pn_iconst dL_law__1536 rfl ic_0 ?_
    exact pn_iretv dL_law__1537 rfl rfl rfl

set_option maxRecDepth 20000 in
set_option maxHeartbeats 4000000 in
theorem wL_law__1558 (Γ : pn_G) (L : Nat) (hL : (pn_sc Γ).2.1 = L) (xs : (Nat → Int32)) (hX : (pn_sc Γ).2.2 = xs) (rec23 : Int32 → pn_S → Option (Int32 × pn_S × Nat)) (hrec23 : ∀ (l4 : Int32) (σ : pn_S), pn_W9 Γ 65 mL_law_ pn_w3 23 [.ref 5000, .ref 0, .ref 85, .ref 96, .int l4, .null, .null] [] σ (rec23 l4 σ)) (l4 : Int32) (σ : pn_S) : pn_W9 Γ 65 mL_law_ pn_w3 1558 [.ref 5000, .ref 0, .ref 85, .ref 96, .int l4, .null, .null] [] σ (fL_law__1558 L xs rec23 l4 σ) := by
  rw [fL_law__1558]
  refine pn_aload_n dL_law__1558 rfl rfl rfl ?_
  refine pn_aload_n dL_law__1559 rfl rfl rfl ?_
  refine pn_iload dL_law__1560 rfl rfl ?_
  refine pn_iconst dL_law__1562 rfl ic_1 ?_
  refine pn_iadd dL_law__1563 rfl ?_
  refine pn_sld hL hX dL_law__1564 rfl ?_
  refine pn_aload_n dL_law__1565 rfl rfl rfl ?_
  refine pn_cw (fun r9 h9 => pn_LKH dL_law__1566 lm_L_218 (ct_L_price Γ (xs (Int32.toNatClampNeg (l4 + (1 : Int32)))) σ r9 h9) (by decide) rfl rfl (Nat.le_of_ble_eq_true rfl)) rfl (fun x153 σ153 => ?_)
  refine pn_istore (ls' := [.ref 5000, .ref 0, .ref 85, .ref 96, .int l4, .int x153, .null]) dL_law__1569 rfl (Nat.le_of_ble_eq_true rfl) rfl ?_
  refine pn_aload_n dL_law__1571 rfl rfl rfl ?_
  refine pn_aload_n dL_law__1572 rfl rfl rfl ?_
  refine pn_iload dL_law__1573 rfl rfl ?_
  refine pn_iconst dL_law__1575 rfl ic_1 ?_
  refine pn_iadd dL_law__1576 rfl ?_
  refine pn_sld hL hX dL_law__1577 rfl ?_
  refine pn_ci (fun r9 h9 => pn_LKV dL_law__1578 lm_L_220 (ct_X11_price Γ (xs (Int32.toNatClampNeg (l4 + (1 : Int32)))) σ153 r9 h9) (by decide) qt_85 qk_85 rfl rfl (Nat.le_of_ble_eq_true rfl)) rfl (fun x154 σ154 => ?_)
  refine pn_istore (ls' := [.ref 5000, .ref 0, .ref 85, .ref 96, .int l4, .int x153, .int x154]) dL_law__1581 rfl (Nat.le_of_ble_eq_true rfl) rfl ?_
  refine pn_aload_n dL_law__1583 rfl rfl rfl ?_
  refine pn_cp (fun r9 h9 => pn_LKV dL_law__1584 lm_L_153 (ct_X11_thrown Γ σ154 r9 h9) (by decide) qt_85 qk_85 rfl rfl (Nat.le_of_ble_eq_true rfl)) rfl (fun x155 => ?_)
  refine pn_iload dL_law__1587 rfl rfl ?_
  refine pn_icmp_eq (tgt := 1594) dL_law__1589 rfl rfl (fun c156 => ?_) (fun c156 => ?_)
  · refine pn_iload dL_law__1594 rfl rfl ?_
    refine pn_if_ne (tgt := 1611) dL_law__1596 rfl rfl (fun c157 => ?_) (fun c157 => ?_)
    · refine pn_aload_n dL_law__1599 rfl rfl rfl ?_
      refine pn_iconst dL_law__1600 rfl ic_0 ?_
      refine pn_lald dL_law__1601 rfl qt_96 qk_96 (by decide) ?_
      refine pn_iload dL_law__1602 rfl rfl ?_
      refine pn_i2l dL_law__1604 rfl ?_
      refine pn_lcmp dL_law__1605 rfl ?_
      refine pn_if_eq (tgt := 1611) dL_law__1606 rfl rfl (fun c158 => ?_) (fun c158 => ?_)
      · refine pn_goto (pc' := 2850) dL_law__1611 rfl ?_
        exact pn_wk (pn_leC rfl (pn_leC rfl (pn_leC rfl (pn_leC rfl (pn_leC rfl (pn_leN (pn_leN pn_le0))))))) (wL_law__2850 Γ L hL xs hX (rec23) (hrec23) l4 σ154)
      · refine pn_iconst dL_law__1609 rfl ic_0 ?_
        exact pn_iretv dL_law__1610 rfl rfl rfl
    · refine pn_goto (pc' := 2850) dL_law__1611 rfl ?_
      exact pn_wk (pn_leC rfl (pn_leC rfl (pn_leC rfl (pn_leC rfl (pn_leC rfl (pn_leN (pn_leN pn_le0))))))) (wL_law__2850 Γ L hL xs hX (rec23) (hrec23) l4 σ154)
  · refine pn_iconst dL_law__1592 rfl ic_0 ?_
    exact pn_iretv dL_law__1593 rfl rfl rfl

set_option maxRecDepth 20000 in
set_option maxHeartbeats 4000000 in
theorem wL_law__1668 (Γ : pn_G) (L : Nat) (hL : (pn_sc Γ).2.1 = L) (xs : (Nat → Int32)) (hX : (pn_sc Γ).2.2 = xs) (rec23 : Int32 → pn_S → Option (Int32 × pn_S × Nat)) (hrec23 : ∀ (l4 : Int32) (σ : pn_S), pn_W9 Γ 65 mL_law_ pn_w3 23 [.ref 5000, .ref 0, .ref 85, .ref 96, .int l4, .null, .null] [] σ (rec23 l4 σ)) (l4 : Int32) (s0 : Int32) (s1 : Int32) (σ : pn_S) : pn_W9 Γ 65 mL_law_ pn_w3 1668 [.ref 5000, .ref 0, .ref 85, .ref 96, .int l4, .null, .null] [.long (Int32.toInt64 s1), .long (Int32.toInt64 s0)] σ (fL_law__1668 L xs rec23 l4 s0 s1 σ) := by
  rw [fL_law__1668]
  refine pn_lcmp dL_law__1668 rfl ?_
  refine pn_if_eq (tgt := 1674) dL_law__1669 rfl rfl (fun c166 => ?_) (fun c166 => ?_)
  · refine pn_goto (pc' := 2850) dL_law__1674 rfl ?_
    exact wL_law__2850 Γ L hL xs hX (rec23) (hrec23) l4 σ
  · refine pn_iconst dL_law__1672 rfl ic_0 ?_
    exact pn_iretv dL_law__1673 rfl rfl rfl

set_option maxRecDepth 20000 in
set_option maxHeartbeats 4000000 in
theorem wL_law__1614 (Γ : pn_G) (L : Nat) (hL : (pn_sc Γ).2.1 = L) (xs : (Nat → Int32)) (hX : (pn_sc Γ).2.2 = xs) (rec23 : Int32 → pn_S → Option (Int32 × pn_S × Nat)) (hrec23 : ∀ (l4 : Int32) (σ : pn_S), pn_W9 Γ 65 mL_law_ pn_w3 23 [.ref 5000, .ref 0, .ref 85, .ref 96, .int l4, .null, .null] [] σ (rec23 l4 σ)) (l4 : Int32) (σ : pn_S) : pn_W9 Γ 65 mL_law_ pn_w3 1614 [.ref 5000, .ref 0, .ref 85, .ref 96, .int l4, .null, .null] [] σ (fL_law__1614 L xs rec23 l4 σ) := by
  rw [fL_law__1614]
  refine pn_aload_n dL_law__1614 rfl rfl rfl ?_
  refine pn_aload_n dL_law__1615 rfl rfl rfl ?_
  refine pn_iload dL_law__1616 rfl rfl ?_
  refine pn_iconst dL_law__1618 rfl ic_1 ?_
  refine pn_iadd dL_law__1619 rfl ?_
  refine pn_sld hL hX dL_law__1620 rfl ?_
  refine pn_aload_n dL_law__1621 rfl rfl rfl ?_
  refine pn_cw (fun r9 h9 => pn_LKH dL_law__1622 lm_L_221 (ct_L_can Γ (xs (Int32.toNatClampNeg (l4 + (1 : Int32)))) σ r9 h9) (by decide) rfl rfl (Nat.le_of_ble_eq_true rfl)) rfl (fun x160 σ160 => ?_)
  refine pn_istore (ls' := [.ref 5000, .ref 0, .ref 85, .ref 96, .int l4, .int x160, .null]) dL_law__1625 rfl (Nat.le_of_ble_eq_true rfl) rfl ?_
  refine pn_aload_n dL_law__1627 rfl rfl rfl ?_
  refine pn_aload_n dL_law__1628 rfl rfl rfl ?_
  refine pn_iload dL_law__1629 rfl rfl ?_
  refine pn_iconst dL_law__1631 rfl ic_1 ?_
  refine pn_iadd dL_law__1632 rfl ?_
  refine pn_sld hL hX dL_law__1633 rfl ?_
  refine pn_ci (fun r9 h9 => pn_LKV dL_law__1634 lm_L_223 (ct_X11_can Γ (xs (Int32.toNatClampNeg (l4 + (1 : Int32)))) σ160 r9 h9) (by decide) qt_85 qk_85 rfl rfl (Nat.le_of_ble_eq_true rfl)) rfl (fun x161 σ161 => ?_)
  refine pn_istore (ls' := [.ref 5000, .ref 0, .ref 85, .ref 96, .int l4, .int x160, .int x161]) dL_law__1637 rfl (Nat.le_of_ble_eq_true rfl) rfl ?_
  refine pn_aload_n dL_law__1639 rfl rfl rfl ?_
  refine pn_cp (fun r9 h9 => pn_LKV dL_law__1640 lm_L_153 (ct_X11_thrown Γ σ161 r9 h9) (by decide) qt_85 qk_85 rfl rfl (Nat.le_of_ble_eq_true rfl)) rfl (fun x162 => ?_)
  refine pn_iload dL_law__1643 rfl rfl ?_
  refine pn_icmp_eq (tgt := 1650) dL_law__1645 rfl rfl (fun c163 => ?_) (fun c163 => ?_)
  · refine pn_iload dL_law__1650 rfl rfl ?_
    refine pn_if_ne (tgt := 1674) dL_law__1652 rfl rfl (fun c164 => ?_) (fun c164 => ?_)
    · refine pn_aload_n dL_law__1655 rfl rfl rfl ?_
      refine pn_iconst dL_law__1656 rfl ic_0 ?_
      refine pn_lald dL_law__1657 rfl qt_96 qk_96 (by decide) ?_
      refine pn_iload dL_law__1658 rfl rfl ?_
      refine pn_if_eq (tgt := 1667) dL_law__1660 rfl rfl (fun c165 => ?_) (fun c165 => ?_)
      · refine pn_lconst (x := (0 : Int32)) dL_law__1667 rfl (by decide) ?_
        exact pn_wk (pn_leC rfl (pn_leC rfl (pn_leC rfl (pn_leC rfl (pn_leC rfl (pn_leN (pn_leN pn_le0))))))) (wL_law__1668 Γ L hL xs hX (rec23) (hrec23) l4 (σ161 96 0) (0 : Int32) σ161)
      · refine pn_lconst (x := (1 : Int32)) dL_law__1663 rfl (by decide) ?_
        refine pn_goto (pc' := 1668) dL_law__1664 rfl ?_
        exact pn_wk (pn_leC rfl (pn_leC rfl (pn_leC rfl (pn_leC rfl (pn_leC rfl (pn_leN (pn_leN pn_le0))))))) (wL_law__1668 Γ L hL xs hX (rec23) (hrec23) l4 (σ161 96 0) (1 : Int32) σ161)
    · refine pn_goto (pc' := 2850) dL_law__1674 rfl ?_
      exact pn_wk (pn_leC rfl (pn_leC rfl (pn_leC rfl (pn_leC rfl (pn_leC rfl (pn_leN (pn_leN pn_le0))))))) (wL_law__2850 Γ L hL xs hX (rec23) (hrec23) l4 σ161)
  · refine pn_iconst dL_law__1648 rfl ic_0 ?_
    exact pn_iretv dL_law__1649 rfl rfl rfl

set_option maxRecDepth 20000 in
set_option maxHeartbeats 4000000 in
theorem wL_law__1677 (Γ : pn_G) (L : Nat) (hL : (pn_sc Γ).2.1 = L) (xs : (Nat → Int32)) (hX : (pn_sc Γ).2.2 = xs) (rec23 : Int32 → pn_S → Option (Int32 × pn_S × Nat)) (hrec23 : ∀ (l4 : Int32) (σ : pn_S), pn_W9 Γ 65 mL_law_ pn_w3 23 [.ref 5000, .ref 0, .ref 85, .ref 96, .int l4, .null, .null] [] σ (rec23 l4 σ)) (l4 : Int32) (σ : pn_S) : pn_W9 Γ 65 mL_law_ pn_w3 1677 [.ref 5000, .ref 0, .ref 85, .ref 96, .int l4, .null, .null] [] σ (fL_law__1677 L xs rec23 l4 σ) := by
  rw [fL_law__1677]
  refine pn_aload_n dL_law__1677 rfl rfl rfl ?_
  refine pn_ci (fun r9 h9 => pn_LKV dL_law__1678 lm_L_224 (ct_X10_dearest Γ σ r9 h9) (by decide) qt_0 qk_0 rfl rfl (Nat.le_of_ble_eq_true rfl)) rfl (fun x168 σ168 => ?_)
  refine pn_aload_n dL_law__1681 rfl rfl rfl ?_
  refine pn_ci (fun r9 h9 => pn_LKV dL_law__1682 lm_L_227 (ct_X11_dearest Γ σ168 r9 h9) (by decide) qt_85 qk_85 rfl rfl (Nat.le_of_ble_eq_true rfl)) rfl (fun x169 σ169 => ?_)
  refine pn_icmp_eq (tgt := 2850) dL_law__1685 rfl rfl (fun c170 => ?_) (fun c170 => ?_)
  · exact wL_law__2850 Γ L hL xs hX (rec23) (hrec23) l4 σ169
  · refine pn_iconst dL_law__1688 rfl ic_0 ?_
    exact pn_iretv dL_law__1689 rfl rfl rfl

set_option maxRecDepth 20000 in
set_option maxHeartbeats 4000000 in
theorem wL_law__1690 (Γ : pn_G) (L : Nat) (hL : (pn_sc Γ).2.1 = L) (xs : (Nat → Int32)) (hX : (pn_sc Γ).2.2 = xs) (rec23 : Int32 → pn_S → Option (Int32 × pn_S × Nat)) (hrec23 : ∀ (l4 : Int32) (σ : pn_S), pn_W9 Γ 65 mL_law_ pn_w3 23 [.ref 5000, .ref 0, .ref 85, .ref 96, .int l4, .null, .null] [] σ (rec23 l4 σ)) (l4 : Int32) (σ : pn_S) : pn_W9 Γ 65 mL_law_ pn_w3 1690 [.ref 5000, .ref 0, .ref 85, .ref 96, .int l4, .null, .null] [] σ (fL_law__1690 L xs rec23 l4 σ) := by
  rw [fL_law__1690]
  refine pn_aload_n dL_law__1690 rfl rfl rfl ?_
  refine pn_aload_n dL_law__1691 rfl rfl rfl ?_
  refine pn_iload dL_law__1692 rfl rfl ?_
  refine pn_iconst dL_law__1694 rfl ic_1 ?_
  refine pn_iadd dL_law__1695 rfl ?_
  refine pn_sld hL hX dL_law__1696 rfl ?_
  refine pn_aload_n dL_law__1697 rfl rfl rfl ?_
  refine pn_cw (fun r9 h9 => pn_LKH dL_law__1698 lm_L_228 (ct_L_brings Γ (xs (Int32.toNatClampNeg (l4 + (1 : Int32)))) σ r9 h9) (by decide) rfl rfl (Nat.le_of_ble_eq_true rfl)) rfl (fun x172 σ172 => ?_)
  refine pn_istore (ls' := [.ref 5000, .ref 0, .ref 85, .ref 96, .int l4, .int x172, .null]) dL_law__1701 rfl (Nat.le_of_ble_eq_true rfl) rfl ?_
  refine pn_aload_n dL_law__1703 rfl rfl rfl ?_
  refine pn_aload_n dL_law__1704 rfl rfl rfl ?_
  refine pn_iload dL_law__1705 rfl rfl ?_
  refine pn_iconst dL_law__1707 rfl ic_1 ?_
  refine pn_iadd dL_law__1708 rfl ?_
  refine pn_sld hL hX dL_law__1709 rfl ?_
  refine pn_ci (fun r9 h9 => pn_LKV dL_law__1710 lm_L_230 (ct_X11_brings Γ (xs (Int32.toNatClampNeg (l4 + (1 : Int32)))) σ172 r9 h9) (by decide) qt_85 qk_85 rfl rfl (Nat.le_of_ble_eq_true rfl)) rfl (fun x173 σ173 => ?_)
  refine pn_istore (ls' := [.ref 5000, .ref 0, .ref 85, .ref 96, .int l4, .int x172, .int x173]) dL_law__1713 rfl (Nat.le_of_ble_eq_true rfl) rfl ?_
  refine pn_aload_n dL_law__1715 rfl rfl rfl ?_
  refine pn_cp (fun r9 h9 => pn_LKV dL_law__1716 lm_L_153 (ct_X11_thrown Γ σ173 r9 h9) (by decide) qt_85 qk_85 rfl rfl (Nat.le_of_ble_eq_true rfl)) rfl (fun x174 => ?_)
  refine pn_iload dL_law__1719 rfl rfl ?_
  refine pn_icmp_eq (tgt := 1726) dL_law__1721 rfl rfl (fun c175 => ?_) (fun c175 => ?_)
  · refine pn_iload dL_law__1726 rfl rfl ?_
    refine pn_if_ne (tgt := 1743) dL_law__1728 rfl rfl (fun c176 => ?_) (fun c176 => ?_)
    · refine pn_aload_n dL_law__1731 rfl rfl rfl ?_
      refine pn_iconst dL_law__1732 rfl ic_0 ?_
      refine pn_lald dL_law__1733 rfl qt_96 qk_96 (by decide) ?_
      refine pn_iload dL_law__1734 rfl rfl ?_
      refine pn_i2l dL_law__1736 rfl ?_
      refine pn_lcmp dL_law__1737 rfl ?_
      refine pn_if_eq (tgt := 1743) dL_law__1738 rfl rfl (fun c177 => ?_) (fun c177 => ?_)
      · refine pn_goto (pc' := 2850) dL_law__1743 rfl ?_
        exact pn_wk (pn_leC rfl (pn_leC rfl (pn_leC rfl (pn_leC rfl (pn_leC rfl (pn_leN (pn_leN pn_le0))))))) (wL_law__2850 Γ L hL xs hX (rec23) (hrec23) l4 σ173)
      · refine pn_iconst dL_law__1741 rfl ic_0 ?_
        exact pn_iretv dL_law__1742 rfl rfl rfl
    · refine pn_goto (pc' := 2850) dL_law__1743 rfl ?_
      exact pn_wk (pn_leC rfl (pn_leC rfl (pn_leC rfl (pn_leC rfl (pn_leC rfl (pn_leN (pn_leN pn_le0))))))) (wL_law__2850 Γ L hL xs hX (rec23) (hrec23) l4 σ173)
  · refine pn_iconst dL_law__1724 rfl ic_0 ?_
    exact pn_iretv dL_law__1725 rfl rfl rfl

set_option maxRecDepth 20000 in
set_option maxHeartbeats 4000000 in
theorem wL_law__1746 (Γ : pn_G) (L : Nat) (hL : (pn_sc Γ).2.1 = L) (xs : (Nat → Int32)) (hX : (pn_sc Γ).2.2 = xs) (rec23 : Int32 → pn_S → Option (Int32 × pn_S × Nat)) (hrec23 : ∀ (l4 : Int32) (σ : pn_S), pn_W9 Γ 65 mL_law_ pn_w3 23 [.ref 5000, .ref 0, .ref 85, .ref 96, .int l4, .null, .null] [] σ (rec23 l4 σ)) (l4 : Int32) (σ : pn_S) : pn_W9 Γ 65 mL_law_ pn_w3 1746 [.ref 5000, .ref 0, .ref 85, .ref 96, .int l4, .null, .null] [] σ (fL_law__1746 L xs rec23 l4 σ) := by
  rw [fL_law__1746]
  refine pn_aload_n dL_law__1746 rfl rfl rfl ?_
  refine pn_ci (fun r9 h9 => pn_LKV dL_law__1747 lm_L_231 (ct_X10_best Γ σ r9 h9) (by decide) qt_0 qk_0 rfl rfl (Nat.le_of_ble_eq_true rfl)) rfl (fun x179 σ179 => ?_)
  refine pn_aload_n dL_law__1750 rfl rfl rfl ?_
  refine pn_ci (fun r9 h9 => pn_LKV dL_law__1751 lm_L_234 (ct_X11_best Γ σ179 r9 h9) (by decide) qt_85 qk_85 rfl rfl (Nat.le_of_ble_eq_true rfl)) rfl (fun x180 σ180 => ?_)
  refine pn_icmp_eq (tgt := 2850) dL_law__1754 rfl rfl (fun c181 => ?_) (fun c181 => ?_)
  · exact wL_law__2850 Γ L hL xs hX (rec23) (hrec23) l4 σ180
  · refine pn_iconst dL_law__1757 rfl ic_0 ?_
    exact pn_iretv dL_law__1758 rfl rfl rfl

set_option maxRecDepth 20000 in
set_option maxHeartbeats 4000000 in
theorem wL_law__1759 (Γ : pn_G) (L : Nat) (hL : (pn_sc Γ).2.1 = L) (xs : (Nat → Int32)) (hX : (pn_sc Γ).2.2 = xs) (rec23 : Int32 → pn_S → Option (Int32 × pn_S × Nat)) (hrec23 : ∀ (l4 : Int32) (σ : pn_S), pn_W9 Γ 65 mL_law_ pn_w3 23 [.ref 5000, .ref 0, .ref 85, .ref 96, .int l4, .null, .null] [] σ (rec23 l4 σ)) (l4 : Int32) (σ : pn_S) : pn_W9 Γ 65 mL_law_ pn_w3 1759 [.ref 5000, .ref 0, .ref 85, .ref 96, .int l4, .null, .null] [] σ (fL_law__1759 L xs rec23 l4 σ) := by
  rw [fL_law__1759]
  refine pn_aload_n dL_law__1759 rfl rfl rfl ?_
  refine pn_aload_n dL_law__1760 rfl rfl rfl ?_
  refine pn_iload dL_law__1761 rfl rfl ?_
  refine pn_iconst dL_law__1763 rfl ic_1 ?_
  refine pn_iadd dL_law__1764 rfl ?_
  refine pn_sld hL hX dL_law__1765 rfl ?_
  refine pn_aload_n dL_law__1766 rfl rfl rfl ?_
  refine pn_cw (fun r9 h9 => pn_LKH dL_law__1767 lm_L_235 (ct_L_rests Γ (xs (Int32.toNatClampNeg (l4 + (1 : Int32)))) σ r9 h9) (by decide) rfl rfl (Nat.le_of_ble_eq_true rfl)) rfl (fun x183 σ183 => ?_)
  refine pn_istore (ls' := [.ref 5000, .ref 0, .ref 85, .ref 96, .int l4, .int x183, .null]) dL_law__1770 rfl (Nat.le_of_ble_eq_true rfl) rfl ?_
  refine pn_aload_n dL_law__1772 rfl rfl rfl ?_
  refine pn_aload_n dL_law__1773 rfl rfl rfl ?_
  refine pn_iload dL_law__1774 rfl rfl ?_
  refine pn_iconst dL_law__1776 rfl ic_1 ?_
  refine pn_iadd dL_law__1777 rfl ?_
  refine pn_sld hL hX dL_law__1778 rfl ?_
  refine pn_ci (fun r9 h9 => pn_LKV dL_law__1779 lm_L_237 (ct_X11_rests Γ (xs (Int32.toNatClampNeg (l4 + (1 : Int32)))) σ183 r9 h9) (by decide) qt_85 qk_85 rfl rfl (Nat.le_of_ble_eq_true rfl)) rfl (fun x184 σ184 => ?_)
  refine pn_istore (ls' := [.ref 5000, .ref 0, .ref 85, .ref 96, .int l4, .int x183, .int x184]) dL_law__1782 rfl (Nat.le_of_ble_eq_true rfl) rfl ?_
  refine pn_aload_n dL_law__1784 rfl rfl rfl ?_
  refine pn_cp (fun r9 h9 => pn_LKV dL_law__1785 lm_L_153 (ct_X11_thrown Γ σ184 r9 h9) (by decide) qt_85 qk_85 rfl rfl (Nat.le_of_ble_eq_true rfl)) rfl (fun x185 => ?_)
  refine pn_iload dL_law__1788 rfl rfl ?_
  refine pn_icmp_eq (tgt := 1795) dL_law__1790 rfl rfl (fun c186 => ?_) (fun c186 => ?_)
  · refine pn_iload dL_law__1795 rfl rfl ?_
    refine pn_if_ne (tgt := 1812) dL_law__1797 rfl rfl (fun c187 => ?_) (fun c187 => ?_)
    · refine pn_aload_n dL_law__1800 rfl rfl rfl ?_
      refine pn_iconst dL_law__1801 rfl ic_0 ?_
      refine pn_lald dL_law__1802 rfl qt_96 qk_96 (by decide) ?_
      refine pn_iload dL_law__1803 rfl rfl ?_
      refine pn_i2l dL_law__1805 rfl ?_
      refine pn_lcmp dL_law__1806 rfl ?_
      refine pn_if_eq (tgt := 1812) dL_law__1807 rfl rfl (fun c188 => ?_) (fun c188 => ?_)
      · refine pn_goto (pc' := 2850) dL_law__1812 rfl ?_
        exact pn_wk (pn_leC rfl (pn_leC rfl (pn_leC rfl (pn_leC rfl (pn_leC rfl (pn_leN (pn_leN pn_le0))))))) (wL_law__2850 Γ L hL xs hX (rec23) (hrec23) l4 σ184)
      · refine pn_iconst dL_law__1810 rfl ic_0 ?_
        exact pn_iretv dL_law__1811 rfl rfl rfl
    · refine pn_goto (pc' := 2850) dL_law__1812 rfl ?_
      exact pn_wk (pn_leC rfl (pn_leC rfl (pn_leC rfl (pn_leC rfl (pn_leC rfl (pn_leN (pn_leN pn_le0))))))) (wL_law__2850 Γ L hL xs hX (rec23) (hrec23) l4 σ184)
  · refine pn_iconst dL_law__1793 rfl ic_0 ?_
    exact pn_iretv dL_law__1794 rfl rfl rfl

set_option maxRecDepth 20000 in
set_option maxHeartbeats 4000000 in
theorem wL_law__1863 (Γ : pn_G) (L : Nat) (hL : (pn_sc Γ).2.1 = L) (xs : (Nat → Int32)) (hX : (pn_sc Γ).2.2 = xs) (rec23 : Int32 → pn_S → Option (Int32 × pn_S × Nat)) (hrec23 : ∀ (l4 : Int32) (σ : pn_S), pn_W9 Γ 65 mL_law_ pn_w3 23 [.ref 5000, .ref 0, .ref 85, .ref 96, .int l4, .null, .null] [] σ (rec23 l4 σ)) (l4 : Int32) (l5 : Int32) (s1 : Int32) (s2 : Int32) (σ : pn_S) : pn_W9 Γ 65 mL_law_ pn_w3 1863 [.ref 5000, .ref 0, .ref 85, .ref 96, .int l4, .int l5, .null] [.int s2, .int s1, .ref 85] σ (fL_law__1863 L xs rec23 l4 l5 s1 s2 σ) := by
  rw [fL_law__1863]
  refine pn_ci (fun r9 h9 => pn_LKV dL_law__1863 lm_L_240 (ct_X11_heard Γ s1 s2 σ r9 h9) (by decide) qt_85 qk_85 rfl rfl (Nat.le_of_ble_eq_true rfl)) rfl (fun x193 σ193 => ?_)
  refine pn_istore (ls' := [.ref 5000, .ref 0, .ref 85, .ref 96, .int l4, .int l5, .int x193]) dL_law__1866 rfl (Nat.le_of_ble_eq_true rfl) rfl ?_
  refine pn_aload_n dL_law__1868 rfl rfl rfl ?_
  refine pn_cp (fun r9 h9 => pn_LKV dL_law__1869 lm_L_153 (ct_X11_thrown Γ σ193 r9 h9) (by decide) qt_85 qk_85 rfl rfl (Nat.le_of_ble_eq_true rfl)) rfl (fun x194 => ?_)
  refine pn_iload dL_law__1872 rfl rfl ?_
  refine pn_icmp_eq (tgt := 1879) dL_law__1874 rfl rfl (fun c195 => ?_) (fun c195 => ?_)
  · refine pn_iload dL_law__1879 rfl rfl ?_
    refine pn_if_ne (tgt := 1896) dL_law__1881 rfl rfl (fun c196 => ?_) (fun c196 => ?_)
    · refine pn_aload_n dL_law__1884 rfl rfl rfl ?_
      refine pn_iconst dL_law__1885 rfl ic_0 ?_
      refine pn_lald dL_law__1886 rfl qt_96 qk_96 (by decide) ?_
      refine pn_iload dL_law__1887 rfl rfl ?_
      refine pn_i2l dL_law__1889 rfl ?_
      refine pn_lcmp dL_law__1890 rfl ?_
      refine pn_if_eq (tgt := 1896) dL_law__1891 rfl rfl (fun c197 => ?_) (fun c197 => ?_)
      · refine pn_goto (pc' := 2850) dL_law__1896 rfl ?_
        exact pn_wk (pn_leC rfl (pn_leC rfl (pn_leC rfl (pn_leC rfl (pn_leC rfl (pn_leN (pn_leN pn_le0))))))) (wL_law__2850 Γ L hL xs hX (rec23) (hrec23) l4 σ193)
      · refine pn_iconst dL_law__1894 rfl ic_0 ?_
        exact pn_iretv dL_law__1895 rfl rfl rfl
    · refine pn_goto (pc' := 2850) dL_law__1896 rfl ?_
      exact pn_wk (pn_leC rfl (pn_leC rfl (pn_leC rfl (pn_leC rfl (pn_leC rfl (pn_leN (pn_leN pn_le0))))))) (wL_law__2850 Γ L hL xs hX (rec23) (hrec23) l4 σ193)
  · refine pn_iconst dL_law__1877 rfl ic_0 ?_
    exact pn_iretv dL_law__1878 rfl rfl rfl

set_option maxRecDepth 20000 in
set_option maxHeartbeats 4000000 in
theorem wL_law__1836 (Γ : pn_G) (L : Nat) (hL : (pn_sc Γ).2.1 = L) (xs : (Nat → Int32)) (hX : (pn_sc Γ).2.2 = xs) (rec23 : Int32 → pn_S → Option (Int32 × pn_S × Nat)) (hrec23 : ∀ (l4 : Int32) (σ : pn_S), pn_W9 Γ 65 mL_law_ pn_w3 23 [.ref 5000, .ref 0, .ref 85, .ref 96, .int l4, .null, .null] [] σ (rec23 l4 σ)) (l4 : Int32) (s1 : Int32) (s2 : Int32) (σ : pn_S) : pn_W9 Γ 65 mL_law_ pn_w3 1836 [.ref 5000, .ref 0, .ref 85, .ref 96, .int l4, .null, .null] [.int s2, .int s1, .ref 0] σ (fL_law__1836 L xs rec23 l4 s1 s2 σ) := by
  rw [fL_law__1836]
  refine pn_aload_n dL_law__1836 rfl rfl rfl ?_
  refine pn_cw (fun r9 h9 => pn_LKH dL_law__1837 lm_L_238 (ct_L_heard Γ s1 s2 σ r9 h9) (by decide) rfl rfl (Nat.le_of_ble_eq_true rfl)) rfl (fun x191 σ191 => ?_)
  refine pn_istore (ls' := [.ref 5000, .ref 0, .ref 85, .ref 96, .int l4, .int x191, .null]) dL_law__1840 rfl (Nat.le_of_ble_eq_true rfl) rfl ?_
  refine pn_aload_n dL_law__1842 rfl rfl rfl ?_
  refine pn_aload_n dL_law__1843 rfl rfl rfl ?_
  refine pn_iload dL_law__1844 rfl rfl ?_
  refine pn_iconst dL_law__1846 rfl ic_1 ?_
  refine pn_iadd dL_law__1847 rfl ?_
  refine pn_sld hL hX dL_law__1848 rfl ?_
  refine pn_aload_n dL_law__1849 rfl rfl rfl ?_
  refine pn_iload dL_law__1850 rfl rfl ?_
  refine pn_iconst dL_law__1852 rfl ic_2 ?_
  refine pn_iadd dL_law__1853 rfl ?_
  refine pn_sld hL hX dL_law__1854 rfl ?_
  refine pn_if_eq (tgt := 1862) dL_law__1855 rfl rfl (fun c192 => ?_) (fun c192 => ?_)
  · refine pn_iconst dL_law__1862 rfl ic_0 ?_
    exact wL_law__1863 Γ L hL xs hX (rec23) (hrec23) l4 x191 (xs (Int32.toNatClampNeg (l4 + (1 : Int32)))) (0 : Int32) σ191
  · refine pn_iconst dL_law__1858 rfl ic_1 ?_
    refine pn_goto (pc' := 1863) dL_law__1859 rfl ?_
    exact wL_law__1863 Γ L hL xs hX (rec23) (hrec23) l4 x191 (xs (Int32.toNatClampNeg (l4 + (1 : Int32)))) (1 : Int32) σ191

set_option maxRecDepth 20000 in
set_option maxHeartbeats 4000000 in
theorem wL_law__1815 (Γ : pn_G) (L : Nat) (hL : (pn_sc Γ).2.1 = L) (xs : (Nat → Int32)) (hX : (pn_sc Γ).2.2 = xs) (rec23 : Int32 → pn_S → Option (Int32 × pn_S × Nat)) (hrec23 : ∀ (l4 : Int32) (σ : pn_S), pn_W9 Γ 65 mL_law_ pn_w3 23 [.ref 5000, .ref 0, .ref 85, .ref 96, .int l4, .null, .null] [] σ (rec23 l4 σ)) (l4 : Int32) (σ : pn_S) : pn_W9 Γ 65 mL_law_ pn_w3 1815 [.ref 5000, .ref 0, .ref 85, .ref 96, .int l4, .null, .null] [] σ (fL_law__1815 L xs rec23 l4 σ) := by
  rw [fL_law__1815]
  refine pn_aload_n dL_law__1815 rfl rfl rfl ?_
  refine pn_aload_n dL_law__1816 rfl rfl rfl ?_
  refine pn_iload dL_law__1817 rfl rfl ?_
  refine pn_iconst dL_law__1819 rfl ic_1 ?_
  refine pn_iadd dL_law__1820 rfl ?_
  refine pn_sld hL hX dL_law__1821 rfl ?_
  refine pn_aload_n dL_law__1822 rfl rfl rfl ?_
  refine pn_iload dL_law__1823 rfl rfl ?_
  refine pn_iconst dL_law__1825 rfl ic_2 ?_
  refine pn_iadd dL_law__1826 rfl ?_
  refine pn_sld hL hX dL_law__1827 rfl ?_
  refine pn_if_eq (tgt := 1835) dL_law__1828 rfl rfl (fun c190 => ?_) (fun c190 => ?_)
  · refine pn_iconst dL_law__1835 rfl ic_0 ?_
    exact wL_law__1836 Γ L hL xs hX (rec23) (hrec23) l4 (xs (Int32.toNatClampNeg (l4 + (1 : Int32)))) (0 : Int32) σ
  · refine pn_iconst dL_law__1831 rfl ic_1 ?_
    refine pn_goto (pc' := 1836) dL_law__1832 rfl ?_
    exact wL_law__1836 Γ L hL xs hX (rec23) (hrec23) l4 (xs (Int32.toNatClampNeg (l4 + (1 : Int32)))) (1 : Int32) σ

set_option maxRecDepth 20000 in
set_option maxHeartbeats 4000000 in
theorem wL_law__1899 (Γ : pn_G) (L : Nat) (hL : (pn_sc Γ).2.1 = L) (xs : (Nat → Int32)) (hX : (pn_sc Γ).2.2 = xs) (rec23 : Int32 → pn_S → Option (Int32 × pn_S × Nat)) (hrec23 : ∀ (l4 : Int32) (σ : pn_S), pn_W9 Γ 65 mL_law_ pn_w3 23 [.ref 5000, .ref 0, .ref 85, .ref 96, .int l4, .null, .null] [] σ (rec23 l4 σ)) (l4 : Int32) (σ : pn_S) : pn_W9 Γ 65 mL_law_ pn_w3 1899 [.ref 5000, .ref 0, .ref 85, .ref 96, .int l4, .null, .null] [] σ (fL_law__1899 L xs rec23 l4 σ) := by
  rw [fL_law__1899]
  refine pn_aload_n dL_law__1899 rfl rfl rfl ?_
  refine pn_aload_n dL_law__1900 rfl rfl rfl ?_
  refine pn_iload dL_law__1901 rfl rfl ?_
  refine pn_iconst dL_law__1903 rfl ic_1 ?_
  refine pn_iadd dL_law__1904 rfl ?_
  refine pn_sld hL hX dL_law__1905 rfl ?_
  refine pn_aload_n dL_law__1906 rfl rfl rfl ?_
  refine pn_cw (fun r9 h9 => pn_LKH dL_law__1907 lm_L_241 (ct_L_ask Γ (xs (Int32.toNatClampNeg (l4 + (1 : Int32)))) σ r9 h9) (by decide) rfl rfl (Nat.le_of_ble_eq_true rfl)) rfl (fun x199 σ199 => ?_)
  refine pn_istore (ls' := [.ref 5000, .ref 0, .ref 85, .ref 96, .int l4, .int x199, .null]) dL_law__1910 rfl (Nat.le_of_ble_eq_true rfl) rfl ?_
  refine pn_aload_n dL_law__1912 rfl rfl rfl ?_
  refine pn_aload_n dL_law__1913 rfl rfl rfl ?_
  refine pn_iload dL_law__1914 rfl rfl ?_
  refine pn_iconst dL_law__1916 rfl ic_1 ?_
  refine pn_iadd dL_law__1917 rfl ?_
  refine pn_sld hL hX dL_law__1918 rfl ?_
  refine pn_ci (fun r9 h9 => pn_LKV dL_law__1919 lm_L_243 (ct_X11_ask Γ (xs (Int32.toNatClampNeg (l4 + (1 : Int32)))) σ199 r9 h9) (by decide) qt_85 qk_85 rfl rfl (Nat.le_of_ble_eq_true rfl)) rfl (fun x200 σ200 => ?_)
  refine pn_istore (ls' := [.ref 5000, .ref 0, .ref 85, .ref 96, .int l4, .int x199, .int x200]) dL_law__1922 rfl (Nat.le_of_ble_eq_true rfl) rfl ?_
  refine pn_aload_n dL_law__1924 rfl rfl rfl ?_
  refine pn_cp (fun r9 h9 => pn_LKV dL_law__1925 lm_L_153 (ct_X11_thrown Γ σ200 r9 h9) (by decide) qt_85 qk_85 rfl rfl (Nat.le_of_ble_eq_true rfl)) rfl (fun x201 => ?_)
  refine pn_iload dL_law__1928 rfl rfl ?_
  refine pn_icmp_eq (tgt := 1935) dL_law__1930 rfl rfl (fun c202 => ?_) (fun c202 => ?_)
  · refine pn_iload dL_law__1935 rfl rfl ?_
    refine pn_if_ne (tgt := 1952) dL_law__1937 rfl rfl (fun c203 => ?_) (fun c203 => ?_)
    · refine pn_aload_n dL_law__1940 rfl rfl rfl ?_
      refine pn_iconst dL_law__1941 rfl ic_0 ?_
      refine pn_lald dL_law__1942 rfl qt_96 qk_96 (by decide) ?_
      refine pn_iload dL_law__1943 rfl rfl ?_
      refine pn_i2l dL_law__1945 rfl ?_
      refine pn_lcmp dL_law__1946 rfl ?_
      refine pn_if_eq (tgt := 1952) dL_law__1947 rfl rfl (fun c204 => ?_) (fun c204 => ?_)
      · refine pn_goto (pc' := 2850) dL_law__1952 rfl ?_
        exact pn_wk (pn_leC rfl (pn_leC rfl (pn_leC rfl (pn_leC rfl (pn_leC rfl (pn_leN (pn_leN pn_le0))))))) (wL_law__2850 Γ L hL xs hX (rec23) (hrec23) l4 σ200)
      · refine pn_iconst dL_law__1950 rfl ic_0 ?_
        exact pn_iretv dL_law__1951 rfl rfl rfl
    · refine pn_goto (pc' := 2850) dL_law__1952 rfl ?_
      exact pn_wk (pn_leC rfl (pn_leC rfl (pn_leC rfl (pn_leC rfl (pn_leC rfl (pn_leN (pn_leN pn_le0))))))) (wL_law__2850 Γ L hL xs hX (rec23) (hrec23) l4 σ200)
  · refine pn_iconst dL_law__1933 rfl ic_0 ?_
    exact pn_iretv dL_law__1934 rfl rfl rfl

set_option maxRecDepth 20000 in
set_option maxHeartbeats 4000000 in
theorem wL_law__1955 (Γ : pn_G) (L : Nat) (hL : (pn_sc Γ).2.1 = L) (xs : (Nat → Int32)) (hX : (pn_sc Γ).2.2 = xs) (rec23 : Int32 → pn_S → Option (Int32 × pn_S × Nat)) (hrec23 : ∀ (l4 : Int32) (σ : pn_S), pn_W9 Γ 65 mL_law_ pn_w3 23 [.ref 5000, .ref 0, .ref 85, .ref 96, .int l4, .null, .null] [] σ (rec23 l4 σ)) (l4 : Int32) (σ : pn_S) : pn_W9 Γ 65 mL_law_ pn_w3 1955 [.ref 5000, .ref 0, .ref 85, .ref 96, .int l4, .null, .null] [] σ (fL_law__1955 L xs rec23 l4 σ) := by
  rw [fL_law__1955]
  refine pn_aload_n dL_law__1955 rfl rfl rfl ?_
  refine pn_aload_n dL_law__1956 rfl rfl rfl ?_
  refine pn_iload dL_law__1957 rfl rfl ?_
  refine pn_iconst dL_law__1959 rfl ic_1 ?_
  refine pn_iadd dL_law__1960 rfl ?_
  refine pn_sld hL hX dL_law__1961 rfl ?_
  refine pn_aload_n dL_law__1962 rfl rfl rfl ?_
  refine pn_cw (fun r9 h9 => pn_LKH dL_law__1963 lm_L_244 (ct_L_feuded Γ (xs (Int32.toNatClampNeg (l4 + (1 : Int32)))) σ r9 h9) (by decide) rfl rfl (Nat.le_of_ble_eq_true rfl)) rfl (fun x206 σ206 => ?_)
  refine pn_istore (ls' := [.ref 5000, .ref 0, .ref 85, .ref 96, .int l4, .int x206, .null]) dL_law__1966 rfl (Nat.le_of_ble_eq_true rfl) rfl ?_
  refine pn_aload_n dL_law__1968 rfl rfl rfl ?_
  refine pn_aload_n dL_law__1969 rfl rfl rfl ?_
  refine pn_iload dL_law__1970 rfl rfl ?_
  refine pn_iconst dL_law__1972 rfl ic_1 ?_
  refine pn_iadd dL_law__1973 rfl ?_
  refine pn_sld hL hX dL_law__1974 rfl ?_
  refine pn_ci (fun r9 h9 => pn_LKV dL_law__1975 lm_L_246 (ct_X11_feuded Γ (xs (Int32.toNatClampNeg (l4 + (1 : Int32)))) σ206 r9 h9) (by decide) qt_85 qk_85 rfl rfl (Nat.le_of_ble_eq_true rfl)) rfl (fun x207 σ207 => ?_)
  refine pn_istore (ls' := [.ref 5000, .ref 0, .ref 85, .ref 96, .int l4, .int x206, .int x207]) dL_law__1978 rfl (Nat.le_of_ble_eq_true rfl) rfl ?_
  refine pn_aload_n dL_law__1980 rfl rfl rfl ?_
  refine pn_cp (fun r9 h9 => pn_LKV dL_law__1981 lm_L_153 (ct_X11_thrown Γ σ207 r9 h9) (by decide) qt_85 qk_85 rfl rfl (Nat.le_of_ble_eq_true rfl)) rfl (fun x208 => ?_)
  refine pn_iload dL_law__1984 rfl rfl ?_
  refine pn_icmp_eq (tgt := 1991) dL_law__1986 rfl rfl (fun c209 => ?_) (fun c209 => ?_)
  · refine pn_iload dL_law__1991 rfl rfl ?_
    refine pn_if_ne (tgt := 2008) dL_law__1993 rfl rfl (fun c210 => ?_) (fun c210 => ?_)
    · refine pn_aload_n dL_law__1996 rfl rfl rfl ?_
      refine pn_iconst dL_law__1997 rfl ic_0 ?_
      refine pn_lald dL_law__1998 rfl qt_96 qk_96 (by decide) ?_
      refine pn_iload dL_law__1999 rfl rfl ?_
      refine pn_i2l dL_law__2001 rfl ?_
      refine pn_lcmp dL_law__2002 rfl ?_
      refine pn_if_eq (tgt := 2008) dL_law__2003 rfl rfl (fun c211 => ?_) (fun c211 => ?_)
      · refine pn_goto (pc' := 2850) dL_law__2008 rfl ?_
        exact pn_wk (pn_leC rfl (pn_leC rfl (pn_leC rfl (pn_leC rfl (pn_leC rfl (pn_leN (pn_leN pn_le0))))))) (wL_law__2850 Γ L hL xs hX (rec23) (hrec23) l4 σ207)
      · refine pn_iconst dL_law__2006 rfl ic_0 ?_
        exact pn_iretv dL_law__2007 rfl rfl rfl
    · refine pn_goto (pc' := 2850) dL_law__2008 rfl ?_
      exact pn_wk (pn_leC rfl (pn_leC rfl (pn_leC rfl (pn_leC rfl (pn_leC rfl (pn_leN (pn_leN pn_le0))))))) (wL_law__2850 Γ L hL xs hX (rec23) (hrec23) l4 σ207)
  · refine pn_iconst dL_law__1989 rfl ic_0 ?_
    exact pn_iretv dL_law__1990 rfl rfl rfl

set_option maxRecDepth 20000 in
set_option maxHeartbeats 4000000 in
theorem wL_law__2011 (Γ : pn_G) (L : Nat) (hL : (pn_sc Γ).2.1 = L) (xs : (Nat → Int32)) (hX : (pn_sc Γ).2.2 = xs) (rec23 : Int32 → pn_S → Option (Int32 × pn_S × Nat)) (hrec23 : ∀ (l4 : Int32) (σ : pn_S), pn_W9 Γ 65 mL_law_ pn_w3 23 [.ref 5000, .ref 0, .ref 85, .ref 96, .int l4, .null, .null] [] σ (rec23 l4 σ)) (l4 : Int32) (σ : pn_S) : pn_W9 Γ 65 mL_law_ pn_w3 2011 [.ref 5000, .ref 0, .ref 85, .ref 96, .int l4, .null, .null] [] σ (fL_law__2011 L xs rec23 l4 σ) := by
  rw [fL_law__2011]
  refine pn_aload_n dL_law__2011 rfl rfl rfl ?_
  refine pn_cp (fun r9 h9 => pn_LKV dL_law__2012 lm_L_247 (ct_X10_feuds Γ σ r9 h9) (by decide) qt_0 qk_0 rfl rfl (Nat.le_of_ble_eq_true rfl)) rfl (fun x213 => ?_)
  refine pn_aload_n dL_law__2015 rfl rfl rfl ?_
  refine pn_ci (fun r9 h9 => pn_LKV dL_law__2016 lm_L_250 (ct_X11_feuds Γ σ r9 h9) (by decide) qt_85 qk_85 rfl rfl (Nat.le_of_ble_eq_true rfl)) rfl (fun x214 σ214 => ?_)
  refine pn_icmp_eq (tgt := 2850) dL_law__2019 rfl rfl (fun c215 => ?_) (fun c215 => ?_)
  · exact wL_law__2850 Γ L hL xs hX (rec23) (hrec23) l4 σ214
  · refine pn_iconst dL_law__2022 rfl ic_0 ?_
    exact pn_iretv dL_law__2023 rfl rfl rfl

set_option maxRecDepth 20000 in
set_option maxHeartbeats 4000000 in
theorem wL_law__2078 (Γ : pn_G) (L : Nat) (hL : (pn_sc Γ).2.1 = L) (xs : (Nat → Int32)) (hX : (pn_sc Γ).2.2 = xs) (rec23 : Int32 → pn_S → Option (Int32 × pn_S × Nat)) (hrec23 : ∀ (l4 : Int32) (σ : pn_S), pn_W9 Γ 65 mL_law_ pn_w3 23 [.ref 5000, .ref 0, .ref 85, .ref 96, .int l4, .null, .null] [] σ (rec23 l4 σ)) (l4 : Int32) (s0 : Int32) (s1 : Int32) (σ : pn_S) : pn_W9 Γ 65 mL_law_ pn_w3 2078 [.ref 5000, .ref 0, .ref 85, .ref 96, .int l4, .null, .null] [.long (Int32.toInt64 s1), .long (Int32.toInt64 s0)] σ (fL_law__2078 L xs rec23 l4 s0 s1 σ) := by
  rw [fL_law__2078]
  refine pn_lcmp dL_law__2078 rfl ?_
  refine pn_if_eq (tgt := 2084) dL_law__2079 rfl rfl (fun c223 => ?_) (fun c223 => ?_)
  · refine pn_goto (pc' := 2850) dL_law__2084 rfl ?_
    exact wL_law__2850 Γ L hL xs hX (rec23) (hrec23) l4 σ
  · refine pn_iconst dL_law__2082 rfl ic_0 ?_
    exact pn_iretv dL_law__2083 rfl rfl rfl

set_option maxRecDepth 20000 in
set_option maxHeartbeats 4000000 in
theorem wL_law__2024 (Γ : pn_G) (L : Nat) (hL : (pn_sc Γ).2.1 = L) (xs : (Nat → Int32)) (hX : (pn_sc Γ).2.2 = xs) (rec23 : Int32 → pn_S → Option (Int32 × pn_S × Nat)) (hrec23 : ∀ (l4 : Int32) (σ : pn_S), pn_W9 Γ 65 mL_law_ pn_w3 23 [.ref 5000, .ref 0, .ref 85, .ref 96, .int l4, .null, .null] [] σ (rec23 l4 σ)) (l4 : Int32) (σ : pn_S) : pn_W9 Γ 65 mL_law_ pn_w3 2024 [.ref 5000, .ref 0, .ref 85, .ref 96, .int l4, .null, .null] [] σ (fL_law__2024 L xs rec23 l4 σ) := by
  rw [fL_law__2024]
  refine pn_aload_n dL_law__2024 rfl rfl rfl ?_
  refine pn_aload_n dL_law__2025 rfl rfl rfl ?_
  refine pn_iload dL_law__2026 rfl rfl ?_
  refine pn_iconst dL_law__2028 rfl ic_1 ?_
  refine pn_iadd dL_law__2029 rfl ?_
  refine pn_sld hL hX dL_law__2030 rfl ?_
  refine pn_aload_n dL_law__2031 rfl rfl rfl ?_
  refine pn_cw (fun r9 h9 => pn_LKH dL_law__2032 lm_L_251 (ct_L_ring Γ (xs (Int32.toNatClampNeg (l4 + (1 : Int32)))) σ r9 h9) (by decide) rfl rfl (Nat.le_of_ble_eq_true rfl)) rfl (fun x217 σ217 => ?_)
  refine pn_istore (ls' := [.ref 5000, .ref 0, .ref 85, .ref 96, .int l4, .int x217, .null]) dL_law__2035 rfl (Nat.le_of_ble_eq_true rfl) rfl ?_
  refine pn_aload_n dL_law__2037 rfl rfl rfl ?_
  refine pn_aload_n dL_law__2038 rfl rfl rfl ?_
  refine pn_iload dL_law__2039 rfl rfl ?_
  refine pn_iconst dL_law__2041 rfl ic_1 ?_
  refine pn_iadd dL_law__2042 rfl ?_
  refine pn_sld hL hX dL_law__2043 rfl ?_
  refine pn_ci (fun r9 h9 => pn_LKV dL_law__2044 lm_L_253 (ct_X11_ring Γ (xs (Int32.toNatClampNeg (l4 + (1 : Int32)))) σ217 r9 h9) (by decide) qt_85 qk_85 rfl rfl (Nat.le_of_ble_eq_true rfl)) rfl (fun x218 σ218 => ?_)
  refine pn_istore (ls' := [.ref 5000, .ref 0, .ref 85, .ref 96, .int l4, .int x217, .int x218]) dL_law__2047 rfl (Nat.le_of_ble_eq_true rfl) rfl ?_
  refine pn_aload_n dL_law__2049 rfl rfl rfl ?_
  refine pn_cp (fun r9 h9 => pn_LKV dL_law__2050 lm_L_153 (ct_X11_thrown Γ σ218 r9 h9) (by decide) qt_85 qk_85 rfl rfl (Nat.le_of_ble_eq_true rfl)) rfl (fun x219 => ?_)
  refine pn_iload dL_law__2053 rfl rfl ?_
  refine pn_icmp_eq (tgt := 2060) dL_law__2055 rfl rfl (fun c220 => ?_) (fun c220 => ?_)
  · refine pn_iload dL_law__2060 rfl rfl ?_
    refine pn_if_ne (tgt := 2084) dL_law__2062 rfl rfl (fun c221 => ?_) (fun c221 => ?_)
    · refine pn_aload_n dL_law__2065 rfl rfl rfl ?_
      refine pn_iconst dL_law__2066 rfl ic_0 ?_
      refine pn_lald dL_law__2067 rfl qt_96 qk_96 (by decide) ?_
      refine pn_iload dL_law__2068 rfl rfl ?_
      refine pn_if_eq (tgt := 2077) dL_law__2070 rfl rfl (fun c222 => ?_) (fun c222 => ?_)
      · refine pn_lconst (x := (0 : Int32)) dL_law__2077 rfl (by decide) ?_
        exact pn_wk (pn_leC rfl (pn_leC rfl (pn_leC rfl (pn_leC rfl (pn_leC rfl (pn_leN (pn_leN pn_le0))))))) (wL_law__2078 Γ L hL xs hX (rec23) (hrec23) l4 (σ218 96 0) (0 : Int32) σ218)
      · refine pn_lconst (x := (1 : Int32)) dL_law__2073 rfl (by decide) ?_
        refine pn_goto (pc' := 2078) dL_law__2074 rfl ?_
        exact pn_wk (pn_leC rfl (pn_leC rfl (pn_leC rfl (pn_leC rfl (pn_leC rfl (pn_leN (pn_leN pn_le0))))))) (wL_law__2078 Γ L hL xs hX (rec23) (hrec23) l4 (σ218 96 0) (1 : Int32) σ218)
    · refine pn_goto (pc' := 2850) dL_law__2084 rfl ?_
      exact pn_wk (pn_leC rfl (pn_leC rfl (pn_leC rfl (pn_leC rfl (pn_leC rfl (pn_leN (pn_leN pn_le0))))))) (wL_law__2850 Γ L hL xs hX (rec23) (hrec23) l4 σ218)
  · refine pn_iconst dL_law__2058 rfl ic_0 ?_
    exact pn_iretv dL_law__2059 rfl rfl rfl

set_option maxRecDepth 20000 in
set_option maxHeartbeats 4000000 in
theorem wL_law__2087 (Γ : pn_G) (L : Nat) (hL : (pn_sc Γ).2.1 = L) (xs : (Nat → Int32)) (hX : (pn_sc Γ).2.2 = xs) (rec23 : Int32 → pn_S → Option (Int32 × pn_S × Nat)) (hrec23 : ∀ (l4 : Int32) (σ : pn_S), pn_W9 Γ 65 mL_law_ pn_w3 23 [.ref 5000, .ref 0, .ref 85, .ref 96, .int l4, .null, .null] [] σ (rec23 l4 σ)) (l4 : Int32) (σ : pn_S) : pn_W9 Γ 65 mL_law_ pn_w3 2087 [.ref 5000, .ref 0, .ref 85, .ref 96, .int l4, .null, .null] [] σ (fL_law__2087 L xs rec23 l4 σ) := by
  rw [fL_law__2087]
  refine pn_aload_n dL_law__2087 rfl rfl rfl ?_
  refine pn_cp (fun r9 h9 => pn_LKV dL_law__2088 lm_L_254 (ct_X10_hated Γ σ r9 h9) (by decide) qt_0 qk_0 rfl rfl (Nat.le_of_ble_eq_true rfl)) rfl (fun x225 => ?_)
  refine pn_aload_n dL_law__2091 rfl rfl rfl ?_
  refine pn_ci (fun r9 h9 => pn_LKV dL_law__2092 lm_L_257 (ct_X11_hated Γ σ r9 h9) (by decide) qt_85 qk_85 rfl rfl (Nat.le_of_ble_eq_true rfl)) rfl (fun x226 σ226 => ?_)
  refine pn_icmp_eq (tgt := 2850) dL_law__2095 rfl rfl (fun c227 => ?_) (fun c227 => ?_)
  · exact wL_law__2850 Γ L hL xs hX (rec23) (hrec23) l4 σ226
  · refine pn_iconst dL_law__2098 rfl ic_0 ?_
    exact pn_iretv dL_law__2099 rfl rfl rfl

set_option maxRecDepth 20000 in
set_option maxHeartbeats 4000000 in
theorem wL_law__2100 (Γ : pn_G) (L : Nat) (hL : (pn_sc Γ).2.1 = L) (xs : (Nat → Int32)) (hX : (pn_sc Γ).2.2 = xs) (rec23 : Int32 → pn_S → Option (Int32 × pn_S × Nat)) (hrec23 : ∀ (l4 : Int32) (σ : pn_S), pn_W9 Γ 65 mL_law_ pn_w3 23 [.ref 5000, .ref 0, .ref 85, .ref 96, .int l4, .null, .null] [] σ (rec23 l4 σ)) (l4 : Int32) (σ : pn_S) : pn_W9 Γ 65 mL_law_ pn_w3 2100 [.ref 5000, .ref 0, .ref 85, .ref 96, .int l4, .null, .null] [] σ (fL_law__2100 L xs rec23 l4 σ) := by
  rw [fL_law__2100]
  refine pn_aload_n dL_law__2100 rfl rfl rfl ?_
  refine pn_aload_n dL_law__2101 rfl rfl rfl ?_
  refine pn_iload dL_law__2102 rfl rfl ?_
  refine pn_iconst dL_law__2104 rfl ic_1 ?_
  refine pn_iadd dL_law__2105 rfl ?_
  refine pn_sld hL hX dL_law__2106 rfl ?_
  refine pn_aload_n dL_law__2107 rfl rfl rfl ?_
  refine pn_cw (fun r9 h9 => pn_LKH dL_law__2108 lm_L_258 (ct_L_watched Γ (xs (Int32.toNatClampNeg (l4 + (1 : Int32)))) σ r9 h9) (by decide) rfl rfl (Nat.le_of_ble_eq_true rfl)) rfl (fun x229 σ229 => ?_)
  refine pn_istore (ls' := [.ref 5000, .ref 0, .ref 85, .ref 96, .int l4, .int x229, .null]) dL_law__2111 rfl (Nat.le_of_ble_eq_true rfl) rfl ?_
  refine pn_aload_n dL_law__2113 rfl rfl rfl ?_
  refine pn_aload_n dL_law__2114 rfl rfl rfl ?_
  refine pn_iload dL_law__2115 rfl rfl ?_
  refine pn_iconst dL_law__2117 rfl ic_1 ?_
  refine pn_iadd dL_law__2118 rfl ?_
  refine pn_sld hL hX dL_law__2119 rfl ?_
  refine pn_ci (fun r9 h9 => pn_LKV dL_law__2120 lm_L_260 (ct_X11_watched Γ (xs (Int32.toNatClampNeg (l4 + (1 : Int32)))) σ229 r9 h9) (by decide) qt_85 qk_85 rfl rfl (Nat.le_of_ble_eq_true rfl)) rfl (fun x230 σ230 => ?_)
  refine pn_istore (ls' := [.ref 5000, .ref 0, .ref 85, .ref 96, .int l4, .int x229, .int x230]) dL_law__2123 rfl (Nat.le_of_ble_eq_true rfl) rfl ?_
  refine pn_aload_n dL_law__2125 rfl rfl rfl ?_
  refine pn_cp (fun r9 h9 => pn_LKV dL_law__2126 lm_L_153 (ct_X11_thrown Γ σ230 r9 h9) (by decide) qt_85 qk_85 rfl rfl (Nat.le_of_ble_eq_true rfl)) rfl (fun x231 => ?_)
  refine pn_iload dL_law__2129 rfl rfl ?_
  refine pn_icmp_eq (tgt := 2136) dL_law__2131 rfl rfl (fun c232 => ?_) (fun c232 => ?_)
  · refine pn_iload dL_law__2136 rfl rfl ?_
    refine pn_if_ne (tgt := 2153) dL_law__2138 rfl rfl (fun c233 => ?_) (fun c233 => ?_)
    · refine pn_aload_n dL_law__2141 rfl rfl rfl ?_
      refine pn_iconst dL_law__2142 rfl ic_0 ?_
      refine pn_lald dL_law__2143 rfl qt_96 qk_96 (by decide) ?_
      refine pn_iload dL_law__2144 rfl rfl ?_
      refine pn_i2l dL_law__2146 rfl ?_
      refine pn_lcmp dL_law__2147 rfl ?_
      refine pn_if_eq (tgt := 2153) dL_law__2148 rfl rfl (fun c234 => ?_) (fun c234 => ?_)
      · refine pn_goto (pc' := 2850) dL_law__2153 rfl ?_
        exact pn_wk (pn_leC rfl (pn_leC rfl (pn_leC rfl (pn_leC rfl (pn_leC rfl (pn_leN (pn_leN pn_le0))))))) (wL_law__2850 Γ L hL xs hX (rec23) (hrec23) l4 σ230)
      · refine pn_iconst dL_law__2151 rfl ic_0 ?_
        exact pn_iretv dL_law__2152 rfl rfl rfl
    · refine pn_goto (pc' := 2850) dL_law__2153 rfl ?_
      exact pn_wk (pn_leC rfl (pn_leC rfl (pn_leC rfl (pn_leC rfl (pn_leC rfl (pn_leN (pn_leN pn_le0))))))) (wL_law__2850 Γ L hL xs hX (rec23) (hrec23) l4 σ230)
  · refine pn_iconst dL_law__2134 rfl ic_0 ?_
    exact pn_iretv dL_law__2135 rfl rfl rfl

set_option maxRecDepth 20000 in
set_option maxHeartbeats 4000000 in
theorem wL_law__2156 (Γ : pn_G) (L : Nat) (hL : (pn_sc Γ).2.1 = L) (xs : (Nat → Int32)) (hX : (pn_sc Γ).2.2 = xs) (rec23 : Int32 → pn_S → Option (Int32 × pn_S × Nat)) (hrec23 : ∀ (l4 : Int32) (σ : pn_S), pn_W9 Γ 65 mL_law_ pn_w3 23 [.ref 5000, .ref 0, .ref 85, .ref 96, .int l4, .null, .null] [] σ (rec23 l4 σ)) (l4 : Int32) (σ : pn_S) : pn_W9 Γ 65 mL_law_ pn_w3 2156 [.ref 5000, .ref 0, .ref 85, .ref 96, .int l4, .null, .null] [] σ (fL_law__2156 L xs rec23 l4 σ) := by
  rw [fL_law__2156]
  refine pn_aload_n dL_law__2156 rfl rfl rfl ?_
  refine pn_ci (fun r9 h9 => pn_LKV dL_law__2157 lm_L_261 (ct_X10_ripest Γ σ r9 h9) (by decide) qt_0 qk_0 rfl rfl (Nat.le_of_ble_eq_true rfl)) rfl (fun x236 σ236 => ?_)
  refine pn_aload_n dL_law__2160 rfl rfl rfl ?_
  refine pn_ci (fun r9 h9 => pn_LKV dL_law__2161 lm_L_264 (ct_X11_ripest Γ σ236 r9 h9) (by decide) qt_85 qk_85 rfl rfl (Nat.le_of_ble_eq_true rfl)) rfl (fun x237 σ237 => ?_)
  refine pn_icmp_eq (tgt := 2850) dL_law__2164 rfl rfl (fun c238 => ?_) (fun c238 => ?_)
  · exact wL_law__2850 Γ L hL xs hX (rec23) (hrec23) l4 σ237
  · refine pn_iconst dL_law__2167 rfl ic_0 ?_
    exact pn_iretv dL_law__2168 rfl rfl rfl

set_option maxRecDepth 20000 in
set_option maxHeartbeats 4000000 in
theorem wL_law__2169 (Γ : pn_G) (L : Nat) (hL : (pn_sc Γ).2.1 = L) (xs : (Nat → Int32)) (hX : (pn_sc Γ).2.2 = xs) (rec23 : Int32 → pn_S → Option (Int32 × pn_S × Nat)) (hrec23 : ∀ (l4 : Int32) (σ : pn_S), pn_W9 Γ 65 mL_law_ pn_w3 23 [.ref 5000, .ref 0, .ref 85, .ref 96, .int l4, .null, .null] [] σ (rec23 l4 σ)) (l4 : Int32) (σ : pn_S) : pn_W9 Γ 65 mL_law_ pn_w3 2169 [.ref 5000, .ref 0, .ref 85, .ref 96, .int l4, .null, .null] [] σ (fL_law__2169 L xs rec23 l4 σ) := by
  rw [fL_law__2169]
  refine pn_aload_n dL_law__2169 rfl rfl rfl ?_
  refine pn_aload_n dL_law__2170 rfl rfl rfl ?_
  refine pn_iload dL_law__2171 rfl rfl ?_
  refine pn_iconst dL_law__2173 rfl ic_1 ?_
  refine pn_iadd dL_law__2174 rfl ?_
  refine pn_sld hL hX dL_law__2175 rfl ?_
  refine pn_aload_n dL_law__2176 rfl rfl rfl ?_
  refine pn_cw (fun r9 h9 => pn_LKH dL_law__2177 lm_L_265 (ct_L_brave Γ (xs (Int32.toNatClampNeg (l4 + (1 : Int32)))) σ r9 h9) (by decide) rfl rfl (Nat.le_of_ble_eq_true rfl)) rfl (fun x240 σ240 => ?_)
  refine pn_istore (ls' := [.ref 5000, .ref 0, .ref 85, .ref 96, .int l4, .int x240, .null]) dL_law__2180 rfl (Nat.le_of_ble_eq_true rfl) rfl ?_
  refine pn_aload_n dL_law__2182 rfl rfl rfl ?_
  refine pn_aload_n dL_law__2183 rfl rfl rfl ?_
  refine pn_iload dL_law__2184 rfl rfl ?_
  refine pn_iconst dL_law__2186 rfl ic_1 ?_
  refine pn_iadd dL_law__2187 rfl ?_
  refine pn_sld hL hX dL_law__2188 rfl ?_
  refine pn_ci (fun r9 h9 => pn_LKV dL_law__2189 lm_L_267 (ct_X11_brave Γ (xs (Int32.toNatClampNeg (l4 + (1 : Int32)))) σ240 r9 h9) (by decide) qt_85 qk_85 rfl rfl (Nat.le_of_ble_eq_true rfl)) rfl (fun x241 σ241 => ?_)
  refine pn_istore (ls' := [.ref 5000, .ref 0, .ref 85, .ref 96, .int l4, .int x240, .int x241]) dL_law__2192 rfl (Nat.le_of_ble_eq_true rfl) rfl ?_
  refine pn_aload_n dL_law__2194 rfl rfl rfl ?_
  refine pn_cp (fun r9 h9 => pn_LKV dL_law__2195 lm_L_153 (ct_X11_thrown Γ σ241 r9 h9) (by decide) qt_85 qk_85 rfl rfl (Nat.le_of_ble_eq_true rfl)) rfl (fun x242 => ?_)
  refine pn_iload dL_law__2198 rfl rfl ?_
  refine pn_icmp_eq (tgt := 2205) dL_law__2200 rfl rfl (fun c243 => ?_) (fun c243 => ?_)
  · refine pn_iload dL_law__2205 rfl rfl ?_
    refine pn_if_ne (tgt := 2222) dL_law__2207 rfl rfl (fun c244 => ?_) (fun c244 => ?_)
    · refine pn_aload_n dL_law__2210 rfl rfl rfl ?_
      refine pn_iconst dL_law__2211 rfl ic_0 ?_
      refine pn_lald dL_law__2212 rfl qt_96 qk_96 (by decide) ?_
      refine pn_iload dL_law__2213 rfl rfl ?_
      refine pn_i2l dL_law__2215 rfl ?_
      refine pn_lcmp dL_law__2216 rfl ?_
      refine pn_if_eq (tgt := 2222) dL_law__2217 rfl rfl (fun c245 => ?_) (fun c245 => ?_)
      · refine pn_goto (pc' := 2850) dL_law__2222 rfl ?_
        exact pn_wk (pn_leC rfl (pn_leC rfl (pn_leC rfl (pn_leC rfl (pn_leC rfl (pn_leN (pn_leN pn_le0))))))) (wL_law__2850 Γ L hL xs hX (rec23) (hrec23) l4 σ241)
      · refine pn_iconst dL_law__2220 rfl ic_0 ?_
        exact pn_iretv dL_law__2221 rfl rfl rfl
    · refine pn_goto (pc' := 2850) dL_law__2222 rfl ?_
      exact pn_wk (pn_leC rfl (pn_leC rfl (pn_leC rfl (pn_leC rfl (pn_leC rfl (pn_leN (pn_leN pn_le0))))))) (wL_law__2850 Γ L hL xs hX (rec23) (hrec23) l4 σ241)
  · refine pn_iconst dL_law__2203 rfl ic_0 ?_
    exact pn_iretv dL_law__2204 rfl rfl rfl

set_option maxRecDepth 20000 in
set_option maxHeartbeats 4000000 in
theorem wL_law__2225 (Γ : pn_G) (L : Nat) (hL : (pn_sc Γ).2.1 = L) (xs : (Nat → Int32)) (hX : (pn_sc Γ).2.2 = xs) (rec23 : Int32 → pn_S → Option (Int32 × pn_S × Nat)) (hrec23 : ∀ (l4 : Int32) (σ : pn_S), pn_W9 Γ 65 mL_law_ pn_w3 23 [.ref 5000, .ref 0, .ref 85, .ref 96, .int l4, .null, .null] [] σ (rec23 l4 σ)) (l4 : Int32) (σ : pn_S) : pn_W9 Γ 65 mL_law_ pn_w3 2225 [.ref 5000, .ref 0, .ref 85, .ref 96, .int l4, .null, .null] [] σ (fL_law__2225 L xs rec23 l4 σ) := by
  rw [fL_law__2225]
  refine pn_aload_n dL_law__2225 rfl rfl rfl ?_
  refine pn_cp (fun r9 h9 => pn_LKV dL_law__2226 lm_L_268 (ct_X10_alike Γ σ r9 h9) (by decide) qt_0 qk_0 rfl rfl (Nat.le_of_ble_eq_true rfl)) rfl (fun x247 => ?_)
  refine pn_aload_n dL_law__2229 rfl rfl rfl ?_
  refine pn_ci (fun r9 h9 => pn_LKV dL_law__2230 lm_L_271 (ct_X11_alike Γ σ r9 h9) (by decide) qt_85 qk_85 rfl rfl (Nat.le_of_ble_eq_true rfl)) rfl (fun x248 σ248 => ?_)
  refine pn_icmp_eq (tgt := 2850) dL_law__2233 rfl rfl (fun c249 => ?_) (fun c249 => ?_)
  · exact wL_law__2850 Γ L hL xs hX (rec23) (hrec23) l4 σ248
  · refine pn_iconst dL_law__2236 rfl ic_0 ?_
    exact pn_iretv dL_law__2237 rfl rfl rfl

set_option maxRecDepth 20000 in
set_option maxHeartbeats 4000000 in
theorem wL_law__2238 (Γ : pn_G) (L : Nat) (hL : (pn_sc Γ).2.1 = L) (xs : (Nat → Int32)) (hX : (pn_sc Γ).2.2 = xs) (rec23 : Int32 → pn_S → Option (Int32 × pn_S × Nat)) (hrec23 : ∀ (l4 : Int32) (σ : pn_S), pn_W9 Γ 65 mL_law_ pn_w3 23 [.ref 5000, .ref 0, .ref 85, .ref 96, .int l4, .null, .null] [] σ (rec23 l4 σ)) (l4 : Int32) (σ : pn_S) : pn_W9 Γ 65 mL_law_ pn_w3 2238 [.ref 5000, .ref 0, .ref 85, .ref 96, .int l4, .null, .null] [] σ (fL_law__2238 L xs rec23 l4 σ) := by
  rw [fL_law__2238]
  refine pn_aload_n dL_law__2238 rfl rfl rfl ?_
  refine pn_ci (fun r9 h9 => pn_LKV dL_law__2239 lm_L_272 (ct_X10_ends Γ σ r9 h9) (by decide) qt_0 qk_0 rfl rfl (Nat.le_of_ble_eq_true rfl)) rfl (fun x251 σ251 => ?_)
  refine pn_aload_n dL_law__2242 rfl rfl rfl ?_
  refine pn_ci (fun r9 h9 => pn_LKV dL_law__2243 lm_L_275 (ct_X11_ends Γ σ251 r9 h9) (by decide) qt_85 qk_85 rfl rfl (Nat.le_of_ble_eq_true rfl)) rfl (fun x252 σ252 => ?_)
  refine pn_icmp_eq (tgt := 2850) dL_law__2246 rfl rfl (fun c253 => ?_) (fun c253 => ?_)
  · exact wL_law__2850 Γ L hL xs hX (rec23) (hrec23) l4 σ252
  · refine pn_iconst dL_law__2249 rfl ic_0 ?_
    exact pn_iretv dL_law__2250 rfl rfl rfl

set_option maxRecDepth 20000 in
set_option maxHeartbeats 4000000 in
theorem wL_law__2251 (Γ : pn_G) (L : Nat) (hL : (pn_sc Γ).2.1 = L) (xs : (Nat → Int32)) (hX : (pn_sc Γ).2.2 = xs) (rec23 : Int32 → pn_S → Option (Int32 × pn_S × Nat)) (hrec23 : ∀ (l4 : Int32) (σ : pn_S), pn_W9 Γ 65 mL_law_ pn_w3 23 [.ref 5000, .ref 0, .ref 85, .ref 96, .int l4, .null, .null] [] σ (rec23 l4 σ)) (l4 : Int32) (σ : pn_S) : pn_W9 Γ 65 mL_law_ pn_w3 2251 [.ref 5000, .ref 0, .ref 85, .ref 96, .int l4, .null, .null] [] σ (fL_law__2251 L xs rec23 l4 σ) := by
  rw [fL_law__2251]
  refine pn_aload_n dL_law__2251 rfl rfl rfl ?_
  refine pn_aload_n dL_law__2252 rfl rfl rfl ?_
  refine pn_iload dL_law__2253 rfl rfl ?_
  refine pn_iconst dL_law__2255 rfl ic_1 ?_
  refine pn_iadd dL_law__2256 rfl ?_
  refine pn_sld hL hX dL_law__2257 rfl ?_
  refine pn_aload_n dL_law__2258 rfl rfl rfl ?_
  refine pn_iload dL_law__2259 rfl rfl ?_
  refine pn_iconst dL_law__2261 rfl ic_2 ?_
  refine pn_iadd dL_law__2262 rfl ?_
  refine pn_sld hL hX dL_law__2263 rfl ?_
  refine pn_aload_n dL_law__2264 rfl rfl rfl ?_
  refine pn_cw (fun r9 h9 => pn_LKH dL_law__2265 lm_L_276 (ct_L_spent Γ (xs (Int32.toNatClampNeg (l4 + (1 : Int32)))) (xs (Int32.toNatClampNeg (l4 + (2 : Int32)))) σ r9 h9) (by decide) rfl rfl (Nat.le_of_ble_eq_true rfl)) rfl (fun x255 σ255 => ?_)
  refine pn_istore (ls' := [.ref 5000, .ref 0, .ref 85, .ref 96, .int l4, .int x255, .null]) dL_law__2268 rfl (Nat.le_of_ble_eq_true rfl) rfl ?_
  refine pn_aload_n dL_law__2270 rfl rfl rfl ?_
  refine pn_aload_n dL_law__2271 rfl rfl rfl ?_
  refine pn_iload dL_law__2272 rfl rfl ?_
  refine pn_iconst dL_law__2274 rfl ic_1 ?_
  refine pn_iadd dL_law__2275 rfl ?_
  refine pn_sld hL hX dL_law__2276 rfl ?_
  refine pn_aload_n dL_law__2277 rfl rfl rfl ?_
  refine pn_iload dL_law__2278 rfl rfl ?_
  refine pn_iconst dL_law__2280 rfl ic_2 ?_
  refine pn_iadd dL_law__2281 rfl ?_
  refine pn_sld hL hX dL_law__2282 rfl ?_
  refine pn_ci (fun r9 h9 => pn_LKV dL_law__2283 lm_L_278 (ct_X11_spent Γ (xs (Int32.toNatClampNeg (l4 + (1 : Int32)))) (xs (Int32.toNatClampNeg (l4 + (2 : Int32)))) σ255 r9 h9) (by decide) qt_85 qk_85 rfl rfl (Nat.le_of_ble_eq_true rfl)) rfl (fun x256 σ256 => ?_)
  refine pn_istore (ls' := [.ref 5000, .ref 0, .ref 85, .ref 96, .int l4, .int x255, .int x256]) dL_law__2286 rfl (Nat.le_of_ble_eq_true rfl) rfl ?_
  refine pn_aload_n dL_law__2288 rfl rfl rfl ?_
  refine pn_cp (fun r9 h9 => pn_LKV dL_law__2289 lm_L_153 (ct_X11_thrown Γ σ256 r9 h9) (by decide) qt_85 qk_85 rfl rfl (Nat.le_of_ble_eq_true rfl)) rfl (fun x257 => ?_)
  refine pn_iload dL_law__2292 rfl rfl ?_
  refine pn_icmp_eq (tgt := 2299) dL_law__2294 rfl rfl (fun c258 => ?_) (fun c258 => ?_)
  · refine pn_iload dL_law__2299 rfl rfl ?_
    refine pn_if_ne (tgt := 2316) dL_law__2301 rfl rfl (fun c259 => ?_) (fun c259 => ?_)
    · refine pn_aload_n dL_law__2304 rfl rfl rfl ?_
      refine pn_iconst dL_law__2305 rfl ic_0 ?_
      refine pn_lald dL_law__2306 rfl qt_96 qk_96 (by decide) ?_
      refine pn_iload dL_law__2307 rfl rfl ?_
      refine pn_i2l dL_law__2309 rfl ?_
      refine pn_lcmp dL_law__2310 rfl ?_
      refine pn_if_eq (tgt := 2316) dL_law__2311 rfl rfl (fun c260 => ?_) (fun c260 => ?_)
      · refine pn_goto (pc' := 2850) dL_law__2316 rfl ?_
        exact pn_wk (pn_leC rfl (pn_leC rfl (pn_leC rfl (pn_leC rfl (pn_leC rfl (pn_leN (pn_leN pn_le0))))))) (wL_law__2850 Γ L hL xs hX (rec23) (hrec23) l4 σ256)
      · refine pn_iconst dL_law__2314 rfl ic_0 ?_
        exact pn_iretv dL_law__2315 rfl rfl rfl
    · refine pn_goto (pc' := 2850) dL_law__2316 rfl ?_
      exact pn_wk (pn_leC rfl (pn_leC rfl (pn_leC rfl (pn_leC rfl (pn_leC rfl (pn_leN (pn_leN pn_le0))))))) (wL_law__2850 Γ L hL xs hX (rec23) (hrec23) l4 σ256)
  · refine pn_iconst dL_law__2297 rfl ic_0 ?_
    exact pn_iretv dL_law__2298 rfl rfl rfl

set_option maxRecDepth 20000 in
set_option maxHeartbeats 4000000 in
theorem wL_law__2319 (Γ : pn_G) (L : Nat) (hL : (pn_sc Γ).2.1 = L) (xs : (Nat → Int32)) (hX : (pn_sc Γ).2.2 = xs) (rec23 : Int32 → pn_S → Option (Int32 × pn_S × Nat)) (hrec23 : ∀ (l4 : Int32) (σ : pn_S), pn_W9 Γ 65 mL_law_ pn_w3 23 [.ref 5000, .ref 0, .ref 85, .ref 96, .int l4, .null, .null] [] σ (rec23 l4 σ)) (l4 : Int32) (σ : pn_S) : pn_W9 Γ 65 mL_law_ pn_w3 2319 [.ref 5000, .ref 0, .ref 85, .ref 96, .int l4, .null, .null] [] σ (fL_law__2319 L xs rec23 l4 σ) := by
  rw [fL_law__2319]
  refine pn_aload_n dL_law__2319 rfl rfl rfl ?_
  refine pn_aload_n dL_law__2320 rfl rfl rfl ?_
  refine pn_iload dL_law__2321 rfl rfl ?_
  refine pn_iconst dL_law__2323 rfl ic_1 ?_
  refine pn_iadd dL_law__2324 rfl ?_
  refine pn_sld hL hX dL_law__2325 rfl ?_
  refine pn_aload_n dL_law__2326 rfl rfl rfl ?_
  refine pn_cw (fun r9 h9 => pn_LKH dL_law__2327 lm_L_279 (ct_L_calm Γ (xs (Int32.toNatClampNeg (l4 + (1 : Int32)))) σ r9 h9) (by decide) rfl rfl (Nat.le_of_ble_eq_true rfl)) rfl (fun x262 σ262 => ?_)
  refine pn_istore (ls' := [.ref 5000, .ref 0, .ref 85, .ref 96, .int l4, .int x262, .null]) dL_law__2330 rfl (Nat.le_of_ble_eq_true rfl) rfl ?_
  refine pn_aload_n dL_law__2332 rfl rfl rfl ?_
  refine pn_aload_n dL_law__2333 rfl rfl rfl ?_
  refine pn_iload dL_law__2334 rfl rfl ?_
  refine pn_iconst dL_law__2336 rfl ic_1 ?_
  refine pn_iadd dL_law__2337 rfl ?_
  refine pn_sld hL hX dL_law__2338 rfl ?_
  refine pn_ci (fun r9 h9 => pn_LKV dL_law__2339 lm_L_281 (ct_X11_calm Γ (xs (Int32.toNatClampNeg (l4 + (1 : Int32)))) σ262 r9 h9) (by decide) qt_85 qk_85 rfl rfl (Nat.le_of_ble_eq_true rfl)) rfl (fun x263 σ263 => ?_)
  refine pn_istore (ls' := [.ref 5000, .ref 0, .ref 85, .ref 96, .int l4, .int x262, .int x263]) dL_law__2342 rfl (Nat.le_of_ble_eq_true rfl) rfl ?_
  refine pn_aload_n dL_law__2344 rfl rfl rfl ?_
  refine pn_cp (fun r9 h9 => pn_LKV dL_law__2345 lm_L_153 (ct_X11_thrown Γ σ263 r9 h9) (by decide) qt_85 qk_85 rfl rfl (Nat.le_of_ble_eq_true rfl)) rfl (fun x264 => ?_)
  refine pn_iload dL_law__2348 rfl rfl ?_
  refine pn_icmp_eq (tgt := 2355) dL_law__2350 rfl rfl (fun c265 => ?_) (fun c265 => ?_)
  · refine pn_iload dL_law__2355 rfl rfl ?_
    refine pn_if_ne (tgt := 2372) dL_law__2357 rfl rfl (fun c266 => ?_) (fun c266 => ?_)
    · refine pn_aload_n dL_law__2360 rfl rfl rfl ?_
      refine pn_iconst dL_law__2361 rfl ic_0 ?_
      refine pn_lald dL_law__2362 rfl qt_96 qk_96 (by decide) ?_
      refine pn_iload dL_law__2363 rfl rfl ?_
      refine pn_i2l dL_law__2365 rfl ?_
      refine pn_lcmp dL_law__2366 rfl ?_
      refine pn_if_eq (tgt := 2372) dL_law__2367 rfl rfl (fun c267 => ?_) (fun c267 => ?_)
      · refine pn_goto (pc' := 2850) dL_law__2372 rfl ?_
        exact pn_wk (pn_leC rfl (pn_leC rfl (pn_leC rfl (pn_leC rfl (pn_leC rfl (pn_leN (pn_leN pn_le0))))))) (wL_law__2850 Γ L hL xs hX (rec23) (hrec23) l4 σ263)
      · refine pn_iconst dL_law__2370 rfl ic_0 ?_
        exact pn_iretv dL_law__2371 rfl rfl rfl
    · refine pn_goto (pc' := 2850) dL_law__2372 rfl ?_
      exact pn_wk (pn_leC rfl (pn_leC rfl (pn_leC rfl (pn_leC rfl (pn_leC rfl (pn_leN (pn_leN pn_le0))))))) (wL_law__2850 Γ L hL xs hX (rec23) (hrec23) l4 σ263)
  · refine pn_iconst dL_law__2353 rfl ic_0 ?_
    exact pn_iretv dL_law__2354 rfl rfl rfl

set_option maxRecDepth 20000 in
set_option maxHeartbeats 4000000 in
theorem wL_law__2375 (Γ : pn_G) (L : Nat) (hL : (pn_sc Γ).2.1 = L) (xs : (Nat → Int32)) (hX : (pn_sc Γ).2.2 = xs) (rec23 : Int32 → pn_S → Option (Int32 × pn_S × Nat)) (hrec23 : ∀ (l4 : Int32) (σ : pn_S), pn_W9 Γ 65 mL_law_ pn_w3 23 [.ref 5000, .ref 0, .ref 85, .ref 96, .int l4, .null, .null] [] σ (rec23 l4 σ)) (l4 : Int32) (σ : pn_S) : pn_W9 Γ 65 mL_law_ pn_w3 2375 [.ref 5000, .ref 0, .ref 85, .ref 96, .int l4, .null, .null] [] σ (fL_law__2375 L xs rec23 l4 σ) := by
  rw [fL_law__2375]
  refine pn_aload_n dL_law__2375 rfl rfl rfl ?_
  refine pn_aload_n dL_law__2376 rfl rfl rfl ?_
  refine pn_iload dL_law__2377 rfl rfl ?_
  refine pn_iconst dL_law__2379 rfl ic_1 ?_
  refine pn_iadd dL_law__2380 rfl ?_
  refine pn_sld hL hX dL_law__2381 rfl ?_
  refine pn_aload_n dL_law__2382 rfl rfl rfl ?_
  refine pn_iload dL_law__2383 rfl rfl ?_
  refine pn_iconst dL_law__2385 rfl ic_2 ?_
  refine pn_iadd dL_law__2386 rfl ?_
  refine pn_sld hL hX dL_law__2387 rfl ?_
  refine pn_aload_n dL_law__2388 rfl rfl rfl ?_
  refine pn_cw (fun r9 h9 => pn_LKH dL_law__2389 lm_L_282 (ct_L_share Γ (xs (Int32.toNatClampNeg (l4 + (1 : Int32)))) (xs (Int32.toNatClampNeg (l4 + (2 : Int32)))) σ r9 h9) (by decide) rfl rfl (Nat.le_of_ble_eq_true rfl)) rfl (fun x269 σ269 => ?_)
  refine pn_istore (ls' := [.ref 5000, .ref 0, .ref 85, .ref 96, .int l4, .int x269, .null]) dL_law__2392 rfl (Nat.le_of_ble_eq_true rfl) rfl ?_
  refine pn_aload_n dL_law__2394 rfl rfl rfl ?_
  refine pn_aload_n dL_law__2395 rfl rfl rfl ?_
  refine pn_iload dL_law__2396 rfl rfl ?_
  refine pn_iconst dL_law__2398 rfl ic_1 ?_
  refine pn_iadd dL_law__2399 rfl ?_
  refine pn_sld hL hX dL_law__2400 rfl ?_
  refine pn_aload_n dL_law__2401 rfl rfl rfl ?_
  refine pn_iload dL_law__2402 rfl rfl ?_
  refine pn_iconst dL_law__2404 rfl ic_2 ?_
  refine pn_iadd dL_law__2405 rfl ?_
  refine pn_sld hL hX dL_law__2406 rfl ?_
  refine pn_ci (fun r9 h9 => pn_LKV dL_law__2407 lm_L_284 (ct_X11_share Γ (xs (Int32.toNatClampNeg (l4 + (1 : Int32)))) (xs (Int32.toNatClampNeg (l4 + (2 : Int32)))) σ269 r9 h9) (by decide) qt_85 qk_85 rfl rfl (Nat.le_of_ble_eq_true rfl)) rfl (fun x270 σ270 => ?_)
  refine pn_istore (ls' := [.ref 5000, .ref 0, .ref 85, .ref 96, .int l4, .int x269, .int x270]) dL_law__2410 rfl (Nat.le_of_ble_eq_true rfl) rfl ?_
  refine pn_aload_n dL_law__2412 rfl rfl rfl ?_
  refine pn_cp (fun r9 h9 => pn_LKV dL_law__2413 lm_L_153 (ct_X11_thrown Γ σ270 r9 h9) (by decide) qt_85 qk_85 rfl rfl (Nat.le_of_ble_eq_true rfl)) rfl (fun x271 => ?_)
  refine pn_iload dL_law__2416 rfl rfl ?_
  refine pn_icmp_eq (tgt := 2423) dL_law__2418 rfl rfl (fun c272 => ?_) (fun c272 => ?_)
  · refine pn_iload dL_law__2423 rfl rfl ?_
    refine pn_if_ne (tgt := 2440) dL_law__2425 rfl rfl (fun c273 => ?_) (fun c273 => ?_)
    · refine pn_aload_n dL_law__2428 rfl rfl rfl ?_
      refine pn_iconst dL_law__2429 rfl ic_0 ?_
      refine pn_lald dL_law__2430 rfl qt_96 qk_96 (by decide) ?_
      refine pn_iload dL_law__2431 rfl rfl ?_
      refine pn_i2l dL_law__2433 rfl ?_
      refine pn_lcmp dL_law__2434 rfl ?_
      refine pn_if_eq (tgt := 2440) dL_law__2435 rfl rfl (fun c274 => ?_) (fun c274 => ?_)
      · refine pn_goto (pc' := 2850) dL_law__2440 rfl ?_
        exact pn_wk (pn_leC rfl (pn_leC rfl (pn_leC rfl (pn_leC rfl (pn_leC rfl (pn_leN (pn_leN pn_le0))))))) (wL_law__2850 Γ L hL xs hX (rec23) (hrec23) l4 σ270)
      · refine pn_iconst dL_law__2438 rfl ic_0 ?_
        exact pn_iretv dL_law__2439 rfl rfl rfl
    · refine pn_goto (pc' := 2850) dL_law__2440 rfl ?_
      exact pn_wk (pn_leC rfl (pn_leC rfl (pn_leC rfl (pn_leC rfl (pn_leC rfl (pn_leN (pn_leN pn_le0))))))) (wL_law__2850 Γ L hL xs hX (rec23) (hrec23) l4 σ270)
  · refine pn_iconst dL_law__2421 rfl ic_0 ?_
    exact pn_iretv dL_law__2422 rfl rfl rfl

set_option maxRecDepth 20000 in
set_option maxHeartbeats 4000000 in
theorem wL_law__2491 (Γ : pn_G) (L : Nat) (hL : (pn_sc Γ).2.1 = L) (xs : (Nat → Int32)) (hX : (pn_sc Γ).2.2 = xs) (rec23 : Int32 → pn_S → Option (Int32 × pn_S × Nat)) (hrec23 : ∀ (l4 : Int32) (σ : pn_S), pn_W9 Γ 65 mL_law_ pn_w3 23 [.ref 5000, .ref 0, .ref 85, .ref 96, .int l4, .null, .null] [] σ (rec23 l4 σ)) (l4 : Int32) (l5 : Int32) (s1 : Int32) (s2 : Int32) (σ : pn_S) : pn_W9 Γ 65 mL_law_ pn_w3 2491 [.ref 5000, .ref 0, .ref 85, .ref 96, .int l4, .int l5, .null] [.int s2, .int s1, .ref 85] σ (fL_law__2491 L xs rec23 l4 l5 s1 s2 σ) := by
  rw [fL_law__2491]
  refine pn_ci (fun r9 h9 => pn_LKV dL_law__2491 lm_L_287 (ct_X11_trial Γ s1 s2 σ r9 h9) (by decide) qt_85 qk_85 rfl rfl (Nat.le_of_ble_eq_true rfl)) rfl (fun x279 σ279 => ?_)
  refine pn_istore (ls' := [.ref 5000, .ref 0, .ref 85, .ref 96, .int l4, .int l5, .int x279]) dL_law__2494 rfl (Nat.le_of_ble_eq_true rfl) rfl ?_
  refine pn_aload_n dL_law__2496 rfl rfl rfl ?_
  refine pn_cp (fun r9 h9 => pn_LKV dL_law__2497 lm_L_153 (ct_X11_thrown Γ σ279 r9 h9) (by decide) qt_85 qk_85 rfl rfl (Nat.le_of_ble_eq_true rfl)) rfl (fun x280 => ?_)
  refine pn_iload dL_law__2500 rfl rfl ?_
  refine pn_icmp_eq (tgt := 2507) dL_law__2502 rfl rfl (fun c281 => ?_) (fun c281 => ?_)
  · refine pn_iload dL_law__2507 rfl rfl ?_
    refine pn_if_ne (tgt := 2524) dL_law__2509 rfl rfl (fun c282 => ?_) (fun c282 => ?_)
    · refine pn_aload_n dL_law__2512 rfl rfl rfl ?_
      refine pn_iconst dL_law__2513 rfl ic_0 ?_
      refine pn_lald dL_law__2514 rfl qt_96 qk_96 (by decide) ?_
      refine pn_iload dL_law__2515 rfl rfl ?_
      refine pn_i2l dL_law__2517 rfl ?_
      refine pn_lcmp dL_law__2518 rfl ?_
      refine pn_if_eq (tgt := 2524) dL_law__2519 rfl rfl (fun c283 => ?_) (fun c283 => ?_)
      · refine pn_goto (pc' := 2850) dL_law__2524 rfl ?_
        exact pn_wk (pn_leC rfl (pn_leC rfl (pn_leC rfl (pn_leC rfl (pn_leC rfl (pn_leN (pn_leN pn_le0))))))) (wL_law__2850 Γ L hL xs hX (rec23) (hrec23) l4 σ279)
      · refine pn_iconst dL_law__2522 rfl ic_0 ?_
        exact pn_iretv dL_law__2523 rfl rfl rfl
    · refine pn_goto (pc' := 2850) dL_law__2524 rfl ?_
      exact pn_wk (pn_leC rfl (pn_leC rfl (pn_leC rfl (pn_leC rfl (pn_leC rfl (pn_leN (pn_leN pn_le0))))))) (wL_law__2850 Γ L hL xs hX (rec23) (hrec23) l4 σ279)
  · refine pn_iconst dL_law__2505 rfl ic_0 ?_
    exact pn_iretv dL_law__2506 rfl rfl rfl

set_option maxRecDepth 20000 in
set_option maxHeartbeats 4000000 in
theorem wL_law__2464 (Γ : pn_G) (L : Nat) (hL : (pn_sc Γ).2.1 = L) (xs : (Nat → Int32)) (hX : (pn_sc Γ).2.2 = xs) (rec23 : Int32 → pn_S → Option (Int32 × pn_S × Nat)) (hrec23 : ∀ (l4 : Int32) (σ : pn_S), pn_W9 Γ 65 mL_law_ pn_w3 23 [.ref 5000, .ref 0, .ref 85, .ref 96, .int l4, .null, .null] [] σ (rec23 l4 σ)) (l4 : Int32) (s1 : Int32) (s2 : Int32) (σ : pn_S) : pn_W9 Γ 65 mL_law_ pn_w3 2464 [.ref 5000, .ref 0, .ref 85, .ref 96, .int l4, .null, .null] [.int s2, .int s1, .ref 0] σ (fL_law__2464 L xs rec23 l4 s1 s2 σ) := by
  rw [fL_law__2464]
  refine pn_aload_n dL_law__2464 rfl rfl rfl ?_
  refine pn_cw (fun r9 h9 => pn_LKH dL_law__2465 lm_L_285 (ct_L_trial Γ s1 s2 σ r9 h9) (by decide) rfl rfl (Nat.le_of_ble_eq_true rfl)) rfl (fun x277 σ277 => ?_)
  refine pn_istore (ls' := [.ref 5000, .ref 0, .ref 85, .ref 96, .int l4, .int x277, .null]) dL_law__2468 rfl (Nat.le_of_ble_eq_true rfl) rfl ?_
  refine pn_aload_n dL_law__2470 rfl rfl rfl ?_
  refine pn_aload_n dL_law__2471 rfl rfl rfl ?_
  refine pn_iload dL_law__2472 rfl rfl ?_
  refine pn_iconst dL_law__2474 rfl ic_1 ?_
  refine pn_iadd dL_law__2475 rfl ?_
  refine pn_sld hL hX dL_law__2476 rfl ?_
  refine pn_aload_n dL_law__2477 rfl rfl rfl ?_
  refine pn_iload dL_law__2478 rfl rfl ?_
  refine pn_iconst dL_law__2480 rfl ic_2 ?_
  refine pn_iadd dL_law__2481 rfl ?_
  refine pn_sld hL hX dL_law__2482 rfl ?_
  refine pn_if_eq (tgt := 2490) dL_law__2483 rfl rfl (fun c278 => ?_) (fun c278 => ?_)
  · refine pn_iconst dL_law__2490 rfl ic_0 ?_
    exact wL_law__2491 Γ L hL xs hX (rec23) (hrec23) l4 x277 (xs (Int32.toNatClampNeg (l4 + (1 : Int32)))) (0 : Int32) σ277
  · refine pn_iconst dL_law__2486 rfl ic_1 ?_
    refine pn_goto (pc' := 2491) dL_law__2487 rfl ?_
    exact wL_law__2491 Γ L hL xs hX (rec23) (hrec23) l4 x277 (xs (Int32.toNatClampNeg (l4 + (1 : Int32)))) (1 : Int32) σ277

set_option maxRecDepth 20000 in
set_option maxHeartbeats 4000000 in
theorem wL_law__2443 (Γ : pn_G) (L : Nat) (hL : (pn_sc Γ).2.1 = L) (xs : (Nat → Int32)) (hX : (pn_sc Γ).2.2 = xs) (rec23 : Int32 → pn_S → Option (Int32 × pn_S × Nat)) (hrec23 : ∀ (l4 : Int32) (σ : pn_S), pn_W9 Γ 65 mL_law_ pn_w3 23 [.ref 5000, .ref 0, .ref 85, .ref 96, .int l4, .null, .null] [] σ (rec23 l4 σ)) (l4 : Int32) (σ : pn_S) : pn_W9 Γ 65 mL_law_ pn_w3 2443 [.ref 5000, .ref 0, .ref 85, .ref 96, .int l4, .null, .null] [] σ (fL_law__2443 L xs rec23 l4 σ) := by
  rw [fL_law__2443]
  refine pn_aload_n dL_law__2443 rfl rfl rfl ?_
  refine pn_aload_n dL_law__2444 rfl rfl rfl ?_
  refine pn_iload dL_law__2445 rfl rfl ?_
  refine pn_iconst dL_law__2447 rfl ic_1 ?_
  refine pn_iadd dL_law__2448 rfl ?_
  refine pn_sld hL hX dL_law__2449 rfl ?_
  refine pn_aload_n dL_law__2450 rfl rfl rfl ?_
  refine pn_iload dL_law__2451 rfl rfl ?_
  refine pn_iconst dL_law__2453 rfl ic_2 ?_
  refine pn_iadd dL_law__2454 rfl ?_
  refine pn_sld hL hX dL_law__2455 rfl ?_
  refine pn_if_eq (tgt := 2463) dL_law__2456 rfl rfl (fun c276 => ?_) (fun c276 => ?_)
  · refine pn_iconst dL_law__2463 rfl ic_0 ?_
    exact wL_law__2464 Γ L hL xs hX (rec23) (hrec23) l4 (xs (Int32.toNatClampNeg (l4 + (1 : Int32)))) (0 : Int32) σ
  · refine pn_iconst dL_law__2459 rfl ic_1 ?_
    refine pn_goto (pc' := 2464) dL_law__2460 rfl ?_
    exact wL_law__2464 Γ L hL xs hX (rec23) (hrec23) l4 (xs (Int32.toNatClampNeg (l4 + (1 : Int32)))) (1 : Int32) σ

set_option maxRecDepth 20000 in
set_option maxHeartbeats 4000000 in
theorem wL_law__2575 (Γ : pn_G) (L : Nat) (hL : (pn_sc Γ).2.1 = L) (xs : (Nat → Int32)) (hX : (pn_sc Γ).2.2 = xs) (rec23 : Int32 → pn_S → Option (Int32 × pn_S × Nat)) (hrec23 : ∀ (l4 : Int32) (σ : pn_S), pn_W9 Γ 65 mL_law_ pn_w3 23 [.ref 5000, .ref 0, .ref 85, .ref 96, .int l4, .null, .null] [] σ (rec23 l4 σ)) (l4 : Int32) (l5 : Int32) (s1 : Int32) (s2 : Int32) (σ : pn_S) : pn_W9 Γ 65 mL_law_ pn_w3 2575 [.ref 5000, .ref 0, .ref 85, .ref 96, .int l4, .int l5, .null] [.int s2, .int s1, .ref 85] σ (fL_law__2575 L xs rec23 l4 l5 s1 s2 σ) := by
  rw [fL_law__2575]
  refine pn_ci (fun r9 h9 => pn_LKV dL_law__2575 lm_L_290 (ct_X11_span Γ s1 s2 σ r9 h9) (by decide) qt_85 qk_85 rfl rfl (Nat.le_of_ble_eq_true rfl)) rfl (fun x288 σ288 => ?_)
  refine pn_istore (ls' := [.ref 5000, .ref 0, .ref 85, .ref 96, .int l4, .int l5, .int x288]) dL_law__2578 rfl (Nat.le_of_ble_eq_true rfl) rfl ?_
  refine pn_aload_n dL_law__2580 rfl rfl rfl ?_
  refine pn_cp (fun r9 h9 => pn_LKV dL_law__2581 lm_L_153 (ct_X11_thrown Γ σ288 r9 h9) (by decide) qt_85 qk_85 rfl rfl (Nat.le_of_ble_eq_true rfl)) rfl (fun x289 => ?_)
  refine pn_iload dL_law__2584 rfl rfl ?_
  refine pn_icmp_eq (tgt := 2591) dL_law__2586 rfl rfl (fun c290 => ?_) (fun c290 => ?_)
  · refine pn_iload dL_law__2591 rfl rfl ?_
    refine pn_if_ne (tgt := 2608) dL_law__2593 rfl rfl (fun c291 => ?_) (fun c291 => ?_)
    · refine pn_aload_n dL_law__2596 rfl rfl rfl ?_
      refine pn_iconst dL_law__2597 rfl ic_0 ?_
      refine pn_lald dL_law__2598 rfl qt_96 qk_96 (by decide) ?_
      refine pn_iload dL_law__2599 rfl rfl ?_
      refine pn_i2l dL_law__2601 rfl ?_
      refine pn_lcmp dL_law__2602 rfl ?_
      refine pn_if_eq (tgt := 2608) dL_law__2603 rfl rfl (fun c292 => ?_) (fun c292 => ?_)
      · refine pn_goto (pc' := 2850) dL_law__2608 rfl ?_
        exact pn_wk (pn_leC rfl (pn_leC rfl (pn_leC rfl (pn_leC rfl (pn_leC rfl (pn_leN (pn_leN pn_le0))))))) (wL_law__2850 Γ L hL xs hX (rec23) (hrec23) l4 σ288)
      · refine pn_iconst dL_law__2606 rfl ic_0 ?_
        exact pn_iretv dL_law__2607 rfl rfl rfl
    · refine pn_goto (pc' := 2850) dL_law__2608 rfl ?_
      exact pn_wk (pn_leC rfl (pn_leC rfl (pn_leC rfl (pn_leC rfl (pn_leC rfl (pn_leN (pn_leN pn_le0))))))) (wL_law__2850 Γ L hL xs hX (rec23) (hrec23) l4 σ288)
  · refine pn_iconst dL_law__2589 rfl ic_0 ?_
    exact pn_iretv dL_law__2590 rfl rfl rfl

set_option maxRecDepth 20000 in
set_option maxHeartbeats 4000000 in
theorem wL_law__2548 (Γ : pn_G) (L : Nat) (hL : (pn_sc Γ).2.1 = L) (xs : (Nat → Int32)) (hX : (pn_sc Γ).2.2 = xs) (rec23 : Int32 → pn_S → Option (Int32 × pn_S × Nat)) (hrec23 : ∀ (l4 : Int32) (σ : pn_S), pn_W9 Γ 65 mL_law_ pn_w3 23 [.ref 5000, .ref 0, .ref 85, .ref 96, .int l4, .null, .null] [] σ (rec23 l4 σ)) (l4 : Int32) (s1 : Int32) (s2 : Int32) (σ : pn_S) : pn_W9 Γ 65 mL_law_ pn_w3 2548 [.ref 5000, .ref 0, .ref 85, .ref 96, .int l4, .null, .null] [.int s2, .int s1, .ref 0] σ (fL_law__2548 L xs rec23 l4 s1 s2 σ) := by
  rw [fL_law__2548]
  refine pn_aload_n dL_law__2548 rfl rfl rfl ?_
  refine pn_cw (fun r9 h9 => pn_LKH dL_law__2549 lm_L_288 (ct_L_span Γ s1 s2 σ r9 h9) (by decide) rfl rfl (Nat.le_of_ble_eq_true rfl)) rfl (fun x286 σ286 => ?_)
  refine pn_istore (ls' := [.ref 5000, .ref 0, .ref 85, .ref 96, .int l4, .int x286, .null]) dL_law__2552 rfl (Nat.le_of_ble_eq_true rfl) rfl ?_
  refine pn_aload_n dL_law__2554 rfl rfl rfl ?_
  refine pn_aload_n dL_law__2555 rfl rfl rfl ?_
  refine pn_iload dL_law__2556 rfl rfl ?_
  refine pn_iconst dL_law__2558 rfl ic_1 ?_
  refine pn_iadd dL_law__2559 rfl ?_
  refine pn_sld hL hX dL_law__2560 rfl ?_
  refine pn_aload_n dL_law__2561 rfl rfl rfl ?_
  refine pn_iload dL_law__2562 rfl rfl ?_
  refine pn_iconst dL_law__2564 rfl ic_2 ?_
  refine pn_iadd dL_law__2565 rfl ?_
  refine pn_sld hL hX dL_law__2566 rfl ?_
  refine pn_if_eq (tgt := 2574) dL_law__2567 rfl rfl (fun c287 => ?_) (fun c287 => ?_)
  · refine pn_iconst dL_law__2574 rfl ic_0 ?_
    exact wL_law__2575 Γ L hL xs hX (rec23) (hrec23) l4 x286 (xs (Int32.toNatClampNeg (l4 + (1 : Int32)))) (0 : Int32) σ286
  · refine pn_iconst dL_law__2570 rfl ic_1 ?_
    refine pn_goto (pc' := 2575) dL_law__2571 rfl ?_
    exact wL_law__2575 Γ L hL xs hX (rec23) (hrec23) l4 x286 (xs (Int32.toNatClampNeg (l4 + (1 : Int32)))) (1 : Int32) σ286

set_option maxRecDepth 20000 in
set_option maxHeartbeats 4000000 in
theorem wL_law__2527 (Γ : pn_G) (L : Nat) (hL : (pn_sc Γ).2.1 = L) (xs : (Nat → Int32)) (hX : (pn_sc Γ).2.2 = xs) (rec23 : Int32 → pn_S → Option (Int32 × pn_S × Nat)) (hrec23 : ∀ (l4 : Int32) (σ : pn_S), pn_W9 Γ 65 mL_law_ pn_w3 23 [.ref 5000, .ref 0, .ref 85, .ref 96, .int l4, .null, .null] [] σ (rec23 l4 σ)) (l4 : Int32) (σ : pn_S) : pn_W9 Γ 65 mL_law_ pn_w3 2527 [.ref 5000, .ref 0, .ref 85, .ref 96, .int l4, .null, .null] [] σ (fL_law__2527 L xs rec23 l4 σ) := by
  rw [fL_law__2527]
  refine pn_aload_n dL_law__2527 rfl rfl rfl ?_
  refine pn_aload_n dL_law__2528 rfl rfl rfl ?_
  refine pn_iload dL_law__2529 rfl rfl ?_
  refine pn_iconst dL_law__2531 rfl ic_1 ?_
  refine pn_iadd dL_law__2532 rfl ?_
  refine pn_sld hL hX dL_law__2533 rfl ?_
  refine pn_aload_n dL_law__2534 rfl rfl rfl ?_
  refine pn_iload dL_law__2535 rfl rfl ?_
  refine pn_iconst dL_law__2537 rfl ic_2 ?_
  refine pn_iadd dL_law__2538 rfl ?_
  refine pn_sld hL hX dL_law__2539 rfl ?_
  refine pn_if_eq (tgt := 2547) dL_law__2540 rfl rfl (fun c285 => ?_) (fun c285 => ?_)
  · refine pn_iconst dL_law__2547 rfl ic_0 ?_
    exact wL_law__2548 Γ L hL xs hX (rec23) (hrec23) l4 (xs (Int32.toNatClampNeg (l4 + (1 : Int32)))) (0 : Int32) σ
  · refine pn_iconst dL_law__2543 rfl ic_1 ?_
    refine pn_goto (pc' := 2548) dL_law__2544 rfl ?_
    exact wL_law__2548 Γ L hL xs hX (rec23) (hrec23) l4 (xs (Int32.toNatClampNeg (l4 + (1 : Int32)))) (1 : Int32) σ

set_option maxRecDepth 20000 in
set_option maxHeartbeats 4000000 in
theorem wL_law__2659 (Γ : pn_G) (L : Nat) (hL : (pn_sc Γ).2.1 = L) (xs : (Nat → Int32)) (hX : (pn_sc Γ).2.2 = xs) (rec23 : Int32 → pn_S → Option (Int32 × pn_S × Nat)) (hrec23 : ∀ (l4 : Int32) (σ : pn_S), pn_W9 Γ 65 mL_law_ pn_w3 23 [.ref 5000, .ref 0, .ref 85, .ref 96, .int l4, .null, .null] [] σ (rec23 l4 σ)) (l4 : Int32) (l5 : Int32) (s1 : Int32) (s2 : Int32) (σ : pn_S) : pn_W9 Γ 65 mL_law_ pn_w3 2659 [.ref 5000, .ref 0, .ref 85, .ref 96, .int l4, .int l5, .null] [.int s2, .int s1, .ref 85] σ (fL_law__2659 L xs rec23 l4 l5 s1 s2 σ) := by
  rw [fL_law__2659]
  refine pn_ci (fun r9 h9 => pn_LKV dL_law__2659 lm_L_293 (ct_X11_led Γ s1 s2 σ r9 h9) (by decide) qt_85 qk_85 rfl rfl (Nat.le_of_ble_eq_true rfl)) rfl (fun x297 σ297 => ?_)
  refine pn_istore (ls' := [.ref 5000, .ref 0, .ref 85, .ref 96, .int l4, .int l5, .int x297]) dL_law__2662 rfl (Nat.le_of_ble_eq_true rfl) rfl ?_
  refine pn_aload_n dL_law__2664 rfl rfl rfl ?_
  refine pn_cp (fun r9 h9 => pn_LKV dL_law__2665 lm_L_153 (ct_X11_thrown Γ σ297 r9 h9) (by decide) qt_85 qk_85 rfl rfl (Nat.le_of_ble_eq_true rfl)) rfl (fun x298 => ?_)
  refine pn_iload dL_law__2668 rfl rfl ?_
  refine pn_icmp_eq (tgt := 2675) dL_law__2670 rfl rfl (fun c299 => ?_) (fun c299 => ?_)
  · refine pn_iload dL_law__2675 rfl rfl ?_
    refine pn_if_ne (tgt := 2692) dL_law__2677 rfl rfl (fun c300 => ?_) (fun c300 => ?_)
    · refine pn_aload_n dL_law__2680 rfl rfl rfl ?_
      refine pn_iconst dL_law__2681 rfl ic_0 ?_
      refine pn_lald dL_law__2682 rfl qt_96 qk_96 (by decide) ?_
      refine pn_iload dL_law__2683 rfl rfl ?_
      refine pn_i2l dL_law__2685 rfl ?_
      refine pn_lcmp dL_law__2686 rfl ?_
      refine pn_if_eq (tgt := 2692) dL_law__2687 rfl rfl (fun c301 => ?_) (fun c301 => ?_)
      · refine pn_goto (pc' := 2850) dL_law__2692 rfl ?_
        exact pn_wk (pn_leC rfl (pn_leC rfl (pn_leC rfl (pn_leC rfl (pn_leC rfl (pn_leN (pn_leN pn_le0))))))) (wL_law__2850 Γ L hL xs hX (rec23) (hrec23) l4 σ297)
      · refine pn_iconst dL_law__2690 rfl ic_0 ?_
        exact pn_iretv dL_law__2691 rfl rfl rfl
    · refine pn_goto (pc' := 2850) dL_law__2692 rfl ?_
      exact pn_wk (pn_leC rfl (pn_leC rfl (pn_leC rfl (pn_leC rfl (pn_leC rfl (pn_leN (pn_leN pn_le0))))))) (wL_law__2850 Γ L hL xs hX (rec23) (hrec23) l4 σ297)
  · refine pn_iconst dL_law__2673 rfl ic_0 ?_
    exact pn_iretv dL_law__2674 rfl rfl rfl

set_option maxRecDepth 20000 in
set_option maxHeartbeats 4000000 in
theorem wL_law__2632 (Γ : pn_G) (L : Nat) (hL : (pn_sc Γ).2.1 = L) (xs : (Nat → Int32)) (hX : (pn_sc Γ).2.2 = xs) (rec23 : Int32 → pn_S → Option (Int32 × pn_S × Nat)) (hrec23 : ∀ (l4 : Int32) (σ : pn_S), pn_W9 Γ 65 mL_law_ pn_w3 23 [.ref 5000, .ref 0, .ref 85, .ref 96, .int l4, .null, .null] [] σ (rec23 l4 σ)) (l4 : Int32) (s1 : Int32) (s2 : Int32) (σ : pn_S) : pn_W9 Γ 65 mL_law_ pn_w3 2632 [.ref 5000, .ref 0, .ref 85, .ref 96, .int l4, .null, .null] [.int s2, .int s1, .ref 0] σ (fL_law__2632 L xs rec23 l4 s1 s2 σ) := by
  rw [fL_law__2632]
  refine pn_aload_n dL_law__2632 rfl rfl rfl ?_
  refine pn_cw (fun r9 h9 => pn_LKH dL_law__2633 lm_L_291 (ct_L_led Γ s1 s2 σ r9 h9) (by decide) rfl rfl (Nat.le_of_ble_eq_true rfl)) rfl (fun x295 σ295 => ?_)
  refine pn_istore (ls' := [.ref 5000, .ref 0, .ref 85, .ref 96, .int l4, .int x295, .null]) dL_law__2636 rfl (Nat.le_of_ble_eq_true rfl) rfl ?_
  refine pn_aload_n dL_law__2638 rfl rfl rfl ?_
  refine pn_aload_n dL_law__2639 rfl rfl rfl ?_
  refine pn_iload dL_law__2640 rfl rfl ?_
  refine pn_iconst dL_law__2642 rfl ic_1 ?_
  refine pn_iadd dL_law__2643 rfl ?_
  refine pn_sld hL hX dL_law__2644 rfl ?_
  refine pn_aload_n dL_law__2645 rfl rfl rfl ?_
  refine pn_iload dL_law__2646 rfl rfl ?_
  refine pn_iconst dL_law__2648 rfl ic_2 ?_
  refine pn_iadd dL_law__2649 rfl ?_
  refine pn_sld hL hX dL_law__2650 rfl ?_
  refine pn_if_eq (tgt := 2658) dL_law__2651 rfl rfl (fun c296 => ?_) (fun c296 => ?_)
  · refine pn_iconst dL_law__2658 rfl ic_0 ?_
    exact wL_law__2659 Γ L hL xs hX (rec23) (hrec23) l4 x295 (xs (Int32.toNatClampNeg (l4 + (1 : Int32)))) (0 : Int32) σ295
  · refine pn_iconst dL_law__2654 rfl ic_1 ?_
    refine pn_goto (pc' := 2659) dL_law__2655 rfl ?_
    exact wL_law__2659 Γ L hL xs hX (rec23) (hrec23) l4 x295 (xs (Int32.toNatClampNeg (l4 + (1 : Int32)))) (1 : Int32) σ295

set_option maxRecDepth 20000 in
set_option maxHeartbeats 4000000 in
theorem wL_law__2611 (Γ : pn_G) (L : Nat) (hL : (pn_sc Γ).2.1 = L) (xs : (Nat → Int32)) (hX : (pn_sc Γ).2.2 = xs) (rec23 : Int32 → pn_S → Option (Int32 × pn_S × Nat)) (hrec23 : ∀ (l4 : Int32) (σ : pn_S), pn_W9 Γ 65 mL_law_ pn_w3 23 [.ref 5000, .ref 0, .ref 85, .ref 96, .int l4, .null, .null] [] σ (rec23 l4 σ)) (l4 : Int32) (σ : pn_S) : pn_W9 Γ 65 mL_law_ pn_w3 2611 [.ref 5000, .ref 0, .ref 85, .ref 96, .int l4, .null, .null] [] σ (fL_law__2611 L xs rec23 l4 σ) := by
  rw [fL_law__2611]
  refine pn_aload_n dL_law__2611 rfl rfl rfl ?_
  refine pn_aload_n dL_law__2612 rfl rfl rfl ?_
  refine pn_iload dL_law__2613 rfl rfl ?_
  refine pn_iconst dL_law__2615 rfl ic_1 ?_
  refine pn_iadd dL_law__2616 rfl ?_
  refine pn_sld hL hX dL_law__2617 rfl ?_
  refine pn_aload_n dL_law__2618 rfl rfl rfl ?_
  refine pn_iload dL_law__2619 rfl rfl ?_
  refine pn_iconst dL_law__2621 rfl ic_2 ?_
  refine pn_iadd dL_law__2622 rfl ?_
  refine pn_sld hL hX dL_law__2623 rfl ?_
  refine pn_if_eq (tgt := 2631) dL_law__2624 rfl rfl (fun c294 => ?_) (fun c294 => ?_)
  · refine pn_iconst dL_law__2631 rfl ic_0 ?_
    exact wL_law__2632 Γ L hL xs hX (rec23) (hrec23) l4 (xs (Int32.toNatClampNeg (l4 + (1 : Int32)))) (0 : Int32) σ
  · refine pn_iconst dL_law__2627 rfl ic_1 ?_
    refine pn_goto (pc' := 2632) dL_law__2628 rfl ?_
    exact wL_law__2632 Γ L hL xs hX (rec23) (hrec23) l4 (xs (Int32.toNatClampNeg (l4 + (1 : Int32)))) (1 : Int32) σ

set_option maxRecDepth 20000 in
set_option maxHeartbeats 4000000 in
theorem wL_law__2695 (Γ : pn_G) (L : Nat) (hL : (pn_sc Γ).2.1 = L) (xs : (Nat → Int32)) (hX : (pn_sc Γ).2.2 = xs) (rec23 : Int32 → pn_S → Option (Int32 × pn_S × Nat)) (hrec23 : ∀ (l4 : Int32) (σ : pn_S), pn_W9 Γ 65 mL_law_ pn_w3 23 [.ref 5000, .ref 0, .ref 85, .ref 96, .int l4, .null, .null] [] σ (rec23 l4 σ)) (l4 : Int32) (σ : pn_S) : pn_W9 Γ 65 mL_law_ pn_w3 2695 [.ref 5000, .ref 0, .ref 85, .ref 96, .int l4, .null, .null] [] σ (fL_law__2695 L xs rec23 l4 σ) := by
  rw [fL_law__2695]
  refine pn_aload_n dL_law__2695 rfl rfl rfl ?_
  refine pn_aload_n dL_law__2696 rfl rfl rfl ?_
  refine pn_iload dL_law__2697 rfl rfl ?_
  refine pn_iconst dL_law__2699 rfl ic_1 ?_
  refine pn_iadd dL_law__2700 rfl ?_
  refine pn_sld hL hX dL_law__2701 rfl ?_
  refine pn_aload_n dL_law__2702 rfl rfl rfl ?_
  refine pn_iload dL_law__2703 rfl rfl ?_
  refine pn_iconst dL_law__2705 rfl ic_2 ?_
  refine pn_iadd dL_law__2706 rfl ?_
  refine pn_sld hL hX dL_law__2707 rfl ?_
  refine pn_aload_n dL_law__2708 rfl rfl rfl ?_
  refine pn_cw (fun r9 h9 => pn_LKH dL_law__2709 lm_L_294 (ct_L_log Γ (xs (Int32.toNatClampNeg (l4 + (1 : Int32)))) (xs (Int32.toNatClampNeg (l4 + (2 : Int32)))) σ r9 h9) (by decide) rfl rfl (Nat.le_of_ble_eq_true rfl)) rfl (fun x303 σ303 => ?_)
  refine pn_istore (ls' := [.ref 5000, .ref 0, .ref 85, .ref 96, .int l4, .int x303, .null]) dL_law__2712 rfl (Nat.le_of_ble_eq_true rfl) rfl ?_
  refine pn_aload_n dL_law__2714 rfl rfl rfl ?_
  refine pn_aload_n dL_law__2715 rfl rfl rfl ?_
  refine pn_iload dL_law__2716 rfl rfl ?_
  refine pn_iconst dL_law__2718 rfl ic_1 ?_
  refine pn_iadd dL_law__2719 rfl ?_
  refine pn_sld hL hX dL_law__2720 rfl ?_
  refine pn_aload_n dL_law__2721 rfl rfl rfl ?_
  refine pn_iload dL_law__2722 rfl rfl ?_
  refine pn_iconst dL_law__2724 rfl ic_2 ?_
  refine pn_iadd dL_law__2725 rfl ?_
  refine pn_sld hL hX dL_law__2726 rfl ?_
  refine pn_ci (fun r9 h9 => pn_LKV dL_law__2727 lm_L_296 (ct_X11_log Γ (xs (Int32.toNatClampNeg (l4 + (1 : Int32)))) (xs (Int32.toNatClampNeg (l4 + (2 : Int32)))) σ303 r9 h9) (by decide) qt_85 qk_85 rfl rfl (Nat.le_of_ble_eq_true rfl)) rfl (fun x304 σ304 => ?_)
  refine pn_istore (ls' := [.ref 5000, .ref 0, .ref 85, .ref 96, .int l4, .int x303, .int x304]) dL_law__2730 rfl (Nat.le_of_ble_eq_true rfl) rfl ?_
  refine pn_aload_n dL_law__2732 rfl rfl rfl ?_
  refine pn_cp (fun r9 h9 => pn_LKV dL_law__2733 lm_L_153 (ct_X11_thrown Γ σ304 r9 h9) (by decide) qt_85 qk_85 rfl rfl (Nat.le_of_ble_eq_true rfl)) rfl (fun x305 => ?_)
  refine pn_iload dL_law__2736 rfl rfl ?_
  refine pn_icmp_eq (tgt := 2743) dL_law__2738 rfl rfl (fun c306 => ?_) (fun c306 => ?_)
  · refine pn_iload dL_law__2743 rfl rfl ?_
    refine pn_if_ne (tgt := 2760) dL_law__2745 rfl rfl (fun c307 => ?_) (fun c307 => ?_)
    · refine pn_aload_n dL_law__2748 rfl rfl rfl ?_
      refine pn_iconst dL_law__2749 rfl ic_0 ?_
      refine pn_lald dL_law__2750 rfl qt_96 qk_96 (by decide) ?_
      refine pn_iload dL_law__2751 rfl rfl ?_
      refine pn_i2l dL_law__2753 rfl ?_
      refine pn_lcmp dL_law__2754 rfl ?_
      refine pn_if_eq (tgt := 2760) dL_law__2755 rfl rfl (fun c308 => ?_) (fun c308 => ?_)
      · refine pn_goto (pc' := 2850) dL_law__2760 rfl ?_
        exact pn_wk (pn_leC rfl (pn_leC rfl (pn_leC rfl (pn_leC rfl (pn_leC rfl (pn_leN (pn_leN pn_le0))))))) (wL_law__2850 Γ L hL xs hX (rec23) (hrec23) l4 σ304)
      · refine pn_iconst dL_law__2758 rfl ic_0 ?_
        exact pn_iretv dL_law__2759 rfl rfl rfl
    · refine pn_goto (pc' := 2850) dL_law__2760 rfl ?_
      exact pn_wk (pn_leC rfl (pn_leC rfl (pn_leC rfl (pn_leC rfl (pn_leC rfl (pn_leN (pn_leN pn_le0))))))) (wL_law__2850 Γ L hL xs hX (rec23) (hrec23) l4 σ304)
  · refine pn_iconst dL_law__2741 rfl ic_0 ?_
    exact pn_iretv dL_law__2742 rfl rfl rfl

set_option maxRecDepth 20000 in
set_option maxHeartbeats 4000000 in
theorem wL_law__2763 (Γ : pn_G) (L : Nat) (hL : (pn_sc Γ).2.1 = L) (xs : (Nat → Int32)) (hX : (pn_sc Γ).2.2 = xs) (rec23 : Int32 → pn_S → Option (Int32 × pn_S × Nat)) (hrec23 : ∀ (l4 : Int32) (σ : pn_S), pn_W9 Γ 65 mL_law_ pn_w3 23 [.ref 5000, .ref 0, .ref 85, .ref 96, .int l4, .null, .null] [] σ (rec23 l4 σ)) (l4 : Int32) (σ : pn_S) : pn_W9 Γ 65 mL_law_ pn_w3 2763 [.ref 5000, .ref 0, .ref 85, .ref 96, .int l4, .null, .null] [] σ (fL_law__2763 L xs rec23 l4 σ) := by
  rw [fL_law__2763]
  refine pn_aload_n dL_law__2763 rfl rfl rfl ?_
  refine pn_aload_n dL_law__2764 rfl rfl rfl ?_
  refine pn_iload dL_law__2765 rfl rfl ?_
  refine pn_iconst dL_law__2767 rfl ic_1 ?_
  refine pn_iadd dL_law__2768 rfl ?_
  refine pn_sld hL hX dL_law__2769 rfl ?_
  refine pn_ci (fun r9 h9 => pn_LKV dL_law__2770 lm_L_297 (ct_X10_seed Γ (xs (Int32.toNatClampNeg (l4 + (1 : Int32)))) σ r9 h9) (by decide) qt_0 qk_0 rfl rfl (Nat.le_of_ble_eq_true rfl)) rfl (fun x310 σ310 => ?_)
  refine pn_aload_n dL_law__2773 rfl rfl rfl ?_
  refine pn_aload_n dL_law__2774 rfl rfl rfl ?_
  refine pn_iload dL_law__2775 rfl rfl ?_
  refine pn_iconst dL_law__2777 rfl ic_1 ?_
  refine pn_iadd dL_law__2778 rfl ?_
  refine pn_sld hL hX dL_law__2779 rfl ?_
  refine pn_ci (fun r9 h9 => pn_LKV dL_law__2780 lm_L_300 (ct_X11_seed Γ (xs (Int32.toNatClampNeg (l4 + (1 : Int32)))) σ310 r9 h9) (by decide) qt_85 qk_85 rfl rfl (Nat.le_of_ble_eq_true rfl)) rfl (fun x311 σ311 => ?_)
  refine pn_icmp_eq (tgt := 2850) dL_law__2783 rfl rfl (fun c312 => ?_) (fun c312 => ?_)
  · exact wL_law__2850 Γ L hL xs hX (rec23) (hrec23) l4 σ311
  · refine pn_iconst dL_law__2786 rfl ic_0 ?_
    exact pn_iretv dL_law__2787 rfl rfl rfl

set_option maxRecDepth 20000 in
set_option maxHeartbeats 4000000 in
theorem wL_law__2788 (Γ : pn_G) (L : Nat) (hL : (pn_sc Γ).2.1 = L) (xs : (Nat → Int32)) (hX : (pn_sc Γ).2.2 = xs) (rec23 : Int32 → pn_S → Option (Int32 × pn_S × Nat)) (hrec23 : ∀ (l4 : Int32) (σ : pn_S), pn_W9 Γ 65 mL_law_ pn_w3 23 [.ref 5000, .ref 0, .ref 85, .ref 96, .int l4, .null, .null] [] σ (rec23 l4 σ)) (l4 : Int32) (σ : pn_S) : pn_W9 Γ 65 mL_law_ pn_w3 2788 [.ref 5000, .ref 0, .ref 85, .ref 96, .int l4, .null, .null] [] σ (fL_law__2788 L xs rec23 l4 σ) := by
  rw [fL_law__2788]
  refine pn_aload_n dL_law__2788 rfl rfl rfl ?_
  refine pn_ci (fun r9 h9 => pn_LKV dL_law__2789 lm_L_301 (ct_X10_undo Γ σ r9 h9) (by decide) qt_0 qk_0 rfl rfl (Nat.le_of_ble_eq_true rfl)) rfl (fun x314 σ314 => ?_)
  refine pn_aload_n dL_law__2792 rfl rfl rfl ?_
  refine pn_ci (fun r9 h9 => pn_LKV dL_law__2793 lm_L_305 (ct_X11_undo Γ σ314 r9 h9) (by decide) qt_85 qk_85 rfl rfl (Nat.le_of_ble_eq_true rfl)) rfl (fun x315 σ315 => ?_)
  refine pn_icmp_eq (tgt := 2850) dL_law__2796 rfl rfl (fun c316 => ?_) (fun c316 => ?_)
  · exact wL_law__2850 Γ L hL xs hX (rec23) (hrec23) l4 σ315
  · refine pn_iconst dL_law__2799 rfl ic_0 ?_
    exact pn_iretv dL_law__2800 rfl rfl rfl

set_option maxRecDepth 20000 in
set_option maxHeartbeats 4000000 in
theorem wL_law__2801 (Γ : pn_G) (L : Nat) (hL : (pn_sc Γ).2.1 = L) (xs : (Nat → Int32)) (hX : (pn_sc Γ).2.2 = xs) (rec23 : Int32 → pn_S → Option (Int32 × pn_S × Nat)) (hrec23 : ∀ (l4 : Int32) (σ : pn_S), pn_W9 Γ 65 mL_law_ pn_w3 23 [.ref 5000, .ref 0, .ref 85, .ref 96, .int l4, .null, .null] [] σ (rec23 l4 σ)) (l4 : Int32) (σ : pn_S) : pn_W9 Γ 65 mL_law_ pn_w3 2801 [.ref 5000, .ref 0, .ref 85, .ref 96, .int l4, .null, .null] [] σ (fL_law__2801 L xs rec23 l4 σ) := by
  rw [fL_law__2801]
  refine pn_aload_n dL_law__2801 rfl rfl rfl ?_
  refine pn_cv (fun r9 h9 => pn_LKV dL_law__2802 lm_L_306 (ct_X10_image Γ σ r9 h9) (by decide) qt_0 qk_0 rfl rfl (Nat.le_of_ble_eq_true rfl)) rfl (fun σ318 => ?_)
  refine pn_aload_n dL_law__2805 rfl rfl rfl ?_
  refine pn_cv (fun r9 h9 => pn_LKV dL_law__2806 lm_L_309 (ct_X11_image Γ σ318 r9 h9) (by decide) qt_85 qk_85 rfl rfl (Nat.le_of_ble_eq_true rfl)) rfl (fun σ319 => ?_)
  refine pn_goto (pc' := 2850) dL_law__2809 rfl ?_
  exact wL_law__2850 Γ L hL xs hX (rec23) (hrec23) l4 σ319

set_option maxRecDepth 20000 in
set_option maxHeartbeats 4000000 in
theorem wL_law__2812 (Γ : pn_G) (L : Nat) (hL : (pn_sc Γ).2.1 = L) (xs : (Nat → Int32)) (hX : (pn_sc Γ).2.2 = xs) (rec23 : Int32 → pn_S → Option (Int32 × pn_S × Nat)) (hrec23 : ∀ (l4 : Int32) (σ : pn_S), pn_W9 Γ 65 mL_law_ pn_w3 23 [.ref 5000, .ref 0, .ref 85, .ref 96, .int l4, .null, .null] [] σ (rec23 l4 σ)) (l4 : Int32) (σ : pn_S) : pn_W9 Γ 65 mL_law_ pn_w3 2812 [.ref 5000, .ref 0, .ref 85, .ref 96, .int l4, .null, .null] [] σ (fL_law__2812 L xs rec23 l4 σ) := by
  rw [fL_law__2812]
  refine pn_aload_n dL_law__2812 rfl rfl rfl ?_
  refine pn_ci (fun r9 h9 => pn_LKV dL_law__2813 lm_L_310 (ct_X10_back Γ σ r9 h9) (by decide) qt_0 qk_0 rfl rfl (Nat.le_of_ble_eq_true rfl)) rfl (fun x321 σ321 => ?_)
  refine pn_aload_n dL_law__2816 rfl rfl rfl ?_
  refine pn_ci (fun r9 h9 => pn_LKV dL_law__2817 lm_L_313 (ct_X11_back Γ σ321 r9 h9) (by decide) qt_85 qk_85 rfl rfl (Nat.le_of_ble_eq_true rfl)) rfl (fun x322 σ322 => ?_)
  refine pn_icmp_eq (tgt := 2850) dL_law__2820 rfl rfl (fun c323 => ?_) (fun c323 => ?_)
  · exact wL_law__2850 Γ L hL xs hX (rec23) (hrec23) l4 σ322
  · refine pn_iconst dL_law__2823 rfl ic_0 ?_
    exact pn_iretv dL_law__2824 rfl rfl rfl

set_option maxRecDepth 20000 in
set_option maxHeartbeats 4000000 in
theorem wL_law__2825 (Γ : pn_G) (L : Nat) (hL : (pn_sc Γ).2.1 = L) (xs : (Nat → Int32)) (hX : (pn_sc Γ).2.2 = xs) (rec23 : Int32 → pn_S → Option (Int32 × pn_S × Nat)) (hrec23 : ∀ (l4 : Int32) (σ : pn_S), pn_W9 Γ 65 mL_law_ pn_w3 23 [.ref 5000, .ref 0, .ref 85, .ref 96, .int l4, .null, .null] [] σ (rec23 l4 σ)) (l4 : Int32) (σ : pn_S) : pn_W9 Γ 65 mL_law_ pn_w3 2825 [.ref 5000, .ref 0, .ref 85, .ref 96, .int l4, .null, .null] [] σ (fL_law__2825 L xs rec23 l4 σ) := by
  rw [fL_law__2825]
  refine pn_aload_n dL_law__2825 rfl rfl rfl ?_
  refine pn_aload_n dL_law__2826 rfl rfl rfl ?_
  refine pn_iload dL_law__2827 rfl rfl ?_
  refine pn_iconst dL_law__2829 rfl ic_1 ?_
  refine pn_iadd dL_law__2830 rfl ?_
  refine pn_sld hL hX dL_law__2831 rfl ?_
  refine pn_cp (fun r9 h9 => pn_LKV dL_law__2832 lm_L_314 (ct_X10_count Γ (xs (Int32.toNatClampNeg (l4 + (1 : Int32)))) σ r9 h9) (by decide) qt_0 qk_0 rfl rfl (Nat.le_of_ble_eq_true rfl)) rfl (fun x325 => ?_)
  refine pn_aload_n dL_law__2835 rfl rfl rfl ?_
  refine pn_aload_n dL_law__2836 rfl rfl rfl ?_
  refine pn_iload dL_law__2837 rfl rfl ?_
  refine pn_iconst dL_law__2839 rfl ic_1 ?_
  refine pn_iadd dL_law__2840 rfl ?_
  refine pn_sld hL hX dL_law__2841 rfl ?_
  refine pn_ci (fun r9 h9 => pn_LKV dL_law__2842 lm_L_317 (ct_X11_count Γ (xs (Int32.toNatClampNeg (l4 + (1 : Int32)))) σ r9 h9) (by decide) qt_85 qk_85 rfl rfl (Nat.le_of_ble_eq_true rfl)) rfl (fun x326 σ326 => ?_)
  refine pn_icmp_eq (tgt := 2850) dL_law__2845 rfl rfl (fun c327 => ?_) (fun c327 => ?_)
  · exact wL_law__2850 Γ L hL xs hX (rec23) (hrec23) l4 σ326
  · refine pn_iconst dL_law__2848 rfl ic_0 ?_
    exact pn_iretv dL_law__2849 rfl rfl rfl

set_option maxRecDepth 20000 in
set_option maxHeartbeats 4000000 in
theorem wL_law__23 (Γ : pn_G) (L : Nat) (hL : (pn_sc Γ).2.1 = L) (xs : (Nat → Int32)) (hX : (pn_sc Γ).2.2 = xs) : ∀ (n9 : Nat) (l4 : Int32) (σ : pn_S), pn_W9 Γ 65 mL_law_ pn_w3 23 [.ref 5000, .ref 0, .ref 85, .ref 96, .int l4, .null, .null] [] σ (fL_law__23 L xs n9 l4 σ) := by
  intro n9
  induction n9 with
  | zero => intro l4 σ; exact pn_none
  | succ n9 ih =>
    intro l4 σ
    rw [fL_law__23]
    refine pn_iload dL_law__23 rfl rfl ?_
    refine pn_aload_n dL_law__25 rfl rfl rfl ?_
    refine pn_slen hL dL_law__26 rfl ?_
    refine pn_bipush dL_law__27 rfl bc_6 ?_
    refine pn_isub dL_law__29 rfl ?_
    refine pn_icmp_gt (tgt := 2856) dL_law__30 rfl rfl (fun c1 => ?_) (fun c1 => ?_)
    · refine pn_iconst dL_law__2856 rfl ic_1 ?_
      exact pn_iretv dL_law__2857 rfl rfl rfl
    · refine pn_aload_n dL_law__33 rfl rfl rfl ?_
      refine pn_iload dL_law__34 rfl rfl ?_
      refine pn_sld hL hX dL_law__36 rfl ?_
      refine pn_bipush dL_law__37 rfl bc_63 ?_
      refine pn_iand dL_law__39 rfl ?_
      refine pn_tabc (v := (0 : Int32)) (tgt := 260) (off := 220) dL_law__40 (by decide) (by decide) (by decide) rfl (fun c2 => ?_) (fun c2 => ?_)
      · exact wL_law__260 Γ L hL xs hX (fL_law__23 L xs n9) (ih) l4 σ
      refine pn_tabc (v := (1 : Int32)) (tgt := 333) (off := 293) dL_law__40 (by decide) (by decide) (by decide) rfl (fun c6 => ?_) (fun c6 => ?_)
      · exact wL_law__333 Γ L hL xs hX (fL_law__23 L xs n9) (ih) l4 σ
      refine pn_tabc (v := (2 : Int32)) (tgt := 358) (off := 318) dL_law__40 (by decide) (by decide) (by decide) rfl (fun c10 => ?_) (fun c10 => ?_)
      · exact wL_law__358 Γ L hL xs hX (fL_law__23 L xs n9) (ih) l4 σ
      refine pn_tabc (v := (3 : Int32)) (tgt := 402) (off := 362) dL_law__40 (by decide) (by decide) (by decide) rfl (fun c17 => ?_) (fun c17 => ?_)
      · exact wL_law__402 Γ L hL xs hX (fL_law__23 L xs n9) (ih) l4 σ
      refine pn_tabc (v := (4 : Int32)) (tgt := 446) (off := 406) dL_law__40 (by decide) (by decide) (by decide) rfl (fun c24 => ?_) (fun c24 => ?_)
      · exact wL_law__446 Γ L hL xs hX (fL_law__23 L xs n9) (ih) l4 σ
      refine pn_tabc (v := (5 : Int32)) (tgt := 459) (off := 419) dL_law__40 (by decide) (by decide) (by decide) rfl (fun c28 => ?_) (fun c28 => ?_)
      · exact wL_law__459 Γ L hL xs hX (fL_law__23 L xs n9) (ih) l4 σ
      refine pn_tabc (v := (6 : Int32)) (tgt := 527) (off := 487) dL_law__40 (by decide) (by decide) (by decide) rfl (fun c35 => ?_) (fun c35 => ?_)
      · exact wL_law__527 Γ L hL xs hX (fL_law__23 L xs n9) (ih) l4 σ
      refine pn_tabc (v := (7 : Int32)) (tgt := 623) (off := 583) dL_law__40 (by decide) (by decide) (by decide) rfl (fun c44 => ?_) (fun c44 => ?_)
      · exact wL_law__623 Γ L hL xs hX (fL_law__23 L xs n9) (ih) l4 σ
      refine pn_tabc (v := (8 : Int32)) (tgt := 679) (off := 639) dL_law__40 (by decide) (by decide) (by decide) rfl (fun c51 => ?_) (fun c51 => ?_)
      · exact wL_law__679 Γ L hL xs hX (fL_law__23 L xs n9) (ih) l4 σ
      refine pn_tabc (v := (9 : Int32)) (tgt := 770) (off := 730) dL_law__40 (by decide) (by decide) (by decide) rfl (fun c61 => ?_) (fun c61 => ?_)
      · exact wL_law__770 Γ L hL xs hX (fL_law__23 L xs n9) (ih) l4 σ
      refine pn_tabc (v := (10 : Int32)) (tgt := 814) (off := 774) dL_law__40 (by decide) (by decide) (by decide) rfl (fun c68 => ?_) (fun c68 => ?_)
      · exact wL_law__814 Γ L hL xs hX (fL_law__23 L xs n9) (ih) l4 σ
      refine pn_tabc (v := (11 : Int32)) (tgt := 882) (off := 842) dL_law__40 (by decide) (by decide) (by decide) rfl (fun c75 => ?_) (fun c75 => ?_)
      · exact wL_law__882 Γ L hL xs hX (fL_law__23 L xs n9) (ih) l4 σ
      refine pn_tabc (v := (12 : Int32)) (tgt := 950) (off := 910) dL_law__40 (by decide) (by decide) (by decide) rfl (fun c82 => ?_) (fun c82 => ?_)
      · exact wL_law__950 Γ L hL xs hX (fL_law__23 L xs n9) (ih) l4 σ
      refine pn_tabc (v := (13 : Int32)) (tgt := 1018) (off := 978) dL_law__40 (by decide) (by decide) (by decide) rfl (fun c89 => ?_) (fun c89 => ?_)
      · exact wL_law__1018 Γ L hL xs hX (fL_law__23 L xs n9) (ih) l4 σ
      refine pn_tabc (v := (14 : Int32)) (tgt := 1086) (off := 1046) dL_law__40 (by decide) (by decide) (by decide) rfl (fun c96 => ?_) (fun c96 => ?_)
      · exact wL_law__1086 Γ L hL xs hX (fL_law__23 L xs n9) (ih) l4 σ
      refine pn_tabc (v := (15 : Int32)) (tgt := 1142) (off := 1102) dL_law__40 (by decide) (by decide) (by decide) rfl (fun c103 => ?_) (fun c103 => ?_)
      · exact wL_law__1142 Γ L hL xs hX (fL_law__23 L xs n9) (ih) l4 σ
      refine pn_tabc (v := (16 : Int32)) (tgt := 1198) (off := 1158) dL_law__40 (by decide) (by decide) (by decide) rfl (fun c110 => ?_) (fun c110 => ?_)
      · exact wL_law__1198 Γ L hL xs hX (fL_law__23 L xs n9) (ih) l4 σ
      refine pn_tabc (v := (17 : Int32)) (tgt := 1254) (off := 1214) dL_law__40 (by decide) (by decide) (by decide) rfl (fun c117 => ?_) (fun c117 => ?_)
      · exact wL_law__1254 Γ L hL xs hX (fL_law__23 L xs n9) (ih) l4 σ
      refine pn_tabc (v := (18 : Int32)) (tgt := 1322) (off := 1282) dL_law__40 (by decide) (by decide) (by decide) rfl (fun c124 => ?_) (fun c124 => ?_)
      · exact wL_law__1322 Γ L hL xs hX (fL_law__23 L xs n9) (ih) l4 σ
      refine pn_tabc (v := (19 : Int32)) (tgt := 1378) (off := 1338) dL_law__40 (by decide) (by decide) (by decide) rfl (fun c131 => ?_) (fun c131 => ?_)
      · exact wL_law__1378 Γ L hL xs hX (fL_law__23 L xs n9) (ih) l4 σ
      refine pn_tabc (v := (20 : Int32)) (tgt := 1446) (off := 1406) dL_law__40 (by decide) (by decide) (by decide) rfl (fun c138 => ?_) (fun c138 => ?_)
      · exact wL_law__1446 Γ L hL xs hX (fL_law__23 L xs n9) (ih) l4 σ
      refine pn_tabc (v := (21 : Int32)) (tgt := 1502) (off := 1462) dL_law__40 (by decide) (by decide) (by decide) rfl (fun c145 => ?_) (fun c145 => ?_)
      · exact wL_law__1502 Γ L hL xs hX (fL_law__23 L xs n9) (ih) l4 σ
      refine pn_tabc (v := (22 : Int32)) (tgt := 1558) (off := 1518) dL_law__40 (by decide) (by decide) (by decide) rfl (fun c152 => ?_) (fun c152 => ?_)
      · exact wL_law__1558 Γ L hL xs hX (fL_law__23 L xs n9) (ih) l4 σ
      refine pn_tabc (v := (23 : Int32)) (tgt := 1614) (off := 1574) dL_law__40 (by decide) (by decide) (by decide) rfl (fun c159 => ?_) (fun c159 => ?_)
      · exact wL_law__1614 Γ L hL xs hX (fL_law__23 L xs n9) (ih) l4 σ
      refine pn_tabc (v := (24 : Int32)) (tgt := 1677) (off := 1637) dL_law__40 (by decide) (by decide) (by decide) rfl (fun c167 => ?_) (fun c167 => ?_)
      · exact wL_law__1677 Γ L hL xs hX (fL_law__23 L xs n9) (ih) l4 σ
      refine pn_tabc (v := (25 : Int32)) (tgt := 1690) (off := 1650) dL_law__40 (by decide) (by decide) (by decide) rfl (fun c171 => ?_) (fun c171 => ?_)
      · exact wL_law__1690 Γ L hL xs hX (fL_law__23 L xs n9) (ih) l4 σ
      refine pn_tabc (v := (26 : Int32)) (tgt := 1746) (off := 1706) dL_law__40 (by decide) (by decide) (by decide) rfl (fun c178 => ?_) (fun c178 => ?_)
      · exact wL_law__1746 Γ L hL xs hX (fL_law__23 L xs n9) (ih) l4 σ
      refine pn_tabc (v := (27 : Int32)) (tgt := 1759) (off := 1719) dL_law__40 (by decide) (by decide) (by decide) rfl (fun c182 => ?_) (fun c182 => ?_)
      · exact wL_law__1759 Γ L hL xs hX (fL_law__23 L xs n9) (ih) l4 σ
      refine pn_tabc (v := (28 : Int32)) (tgt := 1815) (off := 1775) dL_law__40 (by decide) (by decide) (by decide) rfl (fun c189 => ?_) (fun c189 => ?_)
      · exact wL_law__1815 Γ L hL xs hX (fL_law__23 L xs n9) (ih) l4 σ
      refine pn_tabc (v := (29 : Int32)) (tgt := 1899) (off := 1859) dL_law__40 (by decide) (by decide) (by decide) rfl (fun c198 => ?_) (fun c198 => ?_)
      · exact wL_law__1899 Γ L hL xs hX (fL_law__23 L xs n9) (ih) l4 σ
      refine pn_tabc (v := (30 : Int32)) (tgt := 1955) (off := 1915) dL_law__40 (by decide) (by decide) (by decide) rfl (fun c205 => ?_) (fun c205 => ?_)
      · exact wL_law__1955 Γ L hL xs hX (fL_law__23 L xs n9) (ih) l4 σ
      refine pn_tabc (v := (31 : Int32)) (tgt := 2011) (off := 1971) dL_law__40 (by decide) (by decide) (by decide) rfl (fun c212 => ?_) (fun c212 => ?_)
      · exact wL_law__2011 Γ L hL xs hX (fL_law__23 L xs n9) (ih) l4 σ
      refine pn_tabc (v := (32 : Int32)) (tgt := 2024) (off := 1984) dL_law__40 (by decide) (by decide) (by decide) rfl (fun c216 => ?_) (fun c216 => ?_)
      · exact wL_law__2024 Γ L hL xs hX (fL_law__23 L xs n9) (ih) l4 σ
      refine pn_tabc (v := (33 : Int32)) (tgt := 2087) (off := 2047) dL_law__40 (by decide) (by decide) (by decide) rfl (fun c224 => ?_) (fun c224 => ?_)
      · exact wL_law__2087 Γ L hL xs hX (fL_law__23 L xs n9) (ih) l4 σ
      refine pn_tabc (v := (34 : Int32)) (tgt := 2100) (off := 2060) dL_law__40 (by decide) (by decide) (by decide) rfl (fun c228 => ?_) (fun c228 => ?_)
      · exact wL_law__2100 Γ L hL xs hX (fL_law__23 L xs n9) (ih) l4 σ
      refine pn_tabc (v := (35 : Int32)) (tgt := 2156) (off := 2116) dL_law__40 (by decide) (by decide) (by decide) rfl (fun c235 => ?_) (fun c235 => ?_)
      · exact wL_law__2156 Γ L hL xs hX (fL_law__23 L xs n9) (ih) l4 σ
      refine pn_tabc (v := (36 : Int32)) (tgt := 2169) (off := 2129) dL_law__40 (by decide) (by decide) (by decide) rfl (fun c239 => ?_) (fun c239 => ?_)
      · exact wL_law__2169 Γ L hL xs hX (fL_law__23 L xs n9) (ih) l4 σ
      refine pn_tabc (v := (37 : Int32)) (tgt := 2225) (off := 2185) dL_law__40 (by decide) (by decide) (by decide) rfl (fun c246 => ?_) (fun c246 => ?_)
      · exact wL_law__2225 Γ L hL xs hX (fL_law__23 L xs n9) (ih) l4 σ
      refine pn_tabc (v := (38 : Int32)) (tgt := 2238) (off := 2198) dL_law__40 (by decide) (by decide) (by decide) rfl (fun c250 => ?_) (fun c250 => ?_)
      · exact wL_law__2238 Γ L hL xs hX (fL_law__23 L xs n9) (ih) l4 σ
      refine pn_tabc (v := (39 : Int32)) (tgt := 2251) (off := 2211) dL_law__40 (by decide) (by decide) (by decide) rfl (fun c254 => ?_) (fun c254 => ?_)
      · exact wL_law__2251 Γ L hL xs hX (fL_law__23 L xs n9) (ih) l4 σ
      refine pn_tabc (v := (40 : Int32)) (tgt := 2319) (off := 2279) dL_law__40 (by decide) (by decide) (by decide) rfl (fun c261 => ?_) (fun c261 => ?_)
      · exact wL_law__2319 Γ L hL xs hX (fL_law__23 L xs n9) (ih) l4 σ
      refine pn_tabc (v := (41 : Int32)) (tgt := 2375) (off := 2335) dL_law__40 (by decide) (by decide) (by decide) rfl (fun c268 => ?_) (fun c268 => ?_)
      · exact wL_law__2375 Γ L hL xs hX (fL_law__23 L xs n9) (ih) l4 σ
      refine pn_tabc (v := (42 : Int32)) (tgt := 2443) (off := 2403) dL_law__40 (by decide) (by decide) (by decide) rfl (fun c275 => ?_) (fun c275 => ?_)
      · exact wL_law__2443 Γ L hL xs hX (fL_law__23 L xs n9) (ih) l4 σ
      refine pn_tabc (v := (43 : Int32)) (tgt := 2527) (off := 2487) dL_law__40 (by decide) (by decide) (by decide) rfl (fun c284 => ?_) (fun c284 => ?_)
      · exact wL_law__2527 Γ L hL xs hX (fL_law__23 L xs n9) (ih) l4 σ
      refine pn_tabc (v := (44 : Int32)) (tgt := 2611) (off := 2571) dL_law__40 (by decide) (by decide) (by decide) rfl (fun c293 => ?_) (fun c293 => ?_)
      · exact wL_law__2611 Γ L hL xs hX (fL_law__23 L xs n9) (ih) l4 σ
      refine pn_tabc (v := (45 : Int32)) (tgt := 2695) (off := 2655) dL_law__40 (by decide) (by decide) (by decide) rfl (fun c302 => ?_) (fun c302 => ?_)
      · exact wL_law__2695 Γ L hL xs hX (fL_law__23 L xs n9) (ih) l4 σ
      refine pn_tabc (v := (46 : Int32)) (tgt := 2763) (off := 2723) dL_law__40 (by decide) (by decide) (by decide) rfl (fun c309 => ?_) (fun c309 => ?_)
      · exact wL_law__2763 Γ L hL xs hX (fL_law__23 L xs n9) (ih) l4 σ
      refine pn_tabc (v := (47 : Int32)) (tgt := 2788) (off := 2748) dL_law__40 (by decide) (by decide) (by decide) rfl (fun c313 => ?_) (fun c313 => ?_)
      · exact wL_law__2788 Γ L hL xs hX (fL_law__23 L xs n9) (ih) l4 σ
      refine pn_tabc (v := (48 : Int32)) (tgt := 2801) (off := 2761) dL_law__40 (by decide) (by decide) (by decide) rfl (fun c317 => ?_) (fun c317 => ?_)
      · exact wL_law__2801 Γ L hL xs hX (fL_law__23 L xs n9) (ih) l4 σ
      refine pn_tabc (v := (49 : Int32)) (tgt := 2812) (off := 2772) dL_law__40 (by decide) (by decide) (by decide) rfl (fun c320 => ?_) (fun c320 => ?_)
      · exact wL_law__2812 Γ L hL xs hX (fL_law__23 L xs n9) (ih) l4 σ
      refine pn_tabc (v := (50 : Int32)) (tgt := 2825) (off := 2785) dL_law__40 (by decide) (by decide) (by decide) rfl (fun c324 => ?_) (fun c324 => ?_)
      · exact wL_law__2825 Γ L hL xs hX (fL_law__23 L xs n9) (ih) l4 σ
      refine pn_tabd (tgt := 2850) [(0 : Int32), (1 : Int32), (2 : Int32), (3 : Int32), (4 : Int32), (5 : Int32), (6 : Int32), (7 : Int32), (8 : Int32), (9 : Int32), (10 : Int32), (11 : Int32), (12 : Int32), (13 : Int32), (14 : Int32), (15 : Int32), (16 : Int32), (17 : Int32), (18 : Int32), (19 : Int32), (20 : Int32), (21 : Int32), (22 : Int32), (23 : Int32), (24 : Int32), (25 : Int32), (26 : Int32), (27 : Int32), (28 : Int32), (29 : Int32), (30 : Int32), (31 : Int32), (32 : Int32), (33 : Int32), (34 : Int32), (35 : Int32), (36 : Int32), (37 : Int32), (38 : Int32), (39 : Int32), (40 : Int32), (41 : Int32), (42 : Int32), (43 : Int32), (44 : Int32), (45 : Int32), (46 : Int32), (47 : Int32), (48 : Int32), (49 : Int32), (50 : Int32)] dL_law__40 (by decide) (by decide) rfl (pn_an c2 (pn_an c6 (pn_an c10 (pn_an c17 (pn_an c24 (pn_an c28 (pn_an c35 (pn_an c44 (pn_an c51 (pn_an c61 (pn_an c68 (pn_an c75 (pn_an c82 (pn_an c89 (pn_an c96 (pn_an c103 (pn_an c110 (pn_an c117 (pn_an c124 (pn_an c131 (pn_an c138 (pn_an c145 (pn_an c152 (pn_an c159 (pn_an c167 (pn_an c171 (pn_an c178 (pn_an c182 (pn_an c189 (pn_an c198 (pn_an c205 (pn_an c212 (pn_an c216 (pn_an c224 (pn_an c228 (pn_an c235 (pn_an c239 (pn_an c246 (pn_an c250 (pn_an c254 (pn_an c261 (pn_an c268 (pn_an c275 (pn_an c284 (pn_an c293 (pn_an c302 (pn_an c309 (pn_an c313 (pn_an c317 (pn_an c320 (pn_an c324 pn_a0))))))))))))))))))))))))))))))))))))))))))))))))))) ?_
      exact wL_law__2850 Γ L hL xs hX (fL_law__23 L xs n9) (ih) l4 σ


theorem law_ok : law_pure := sorry

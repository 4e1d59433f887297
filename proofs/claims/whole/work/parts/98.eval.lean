theorem e_eval : e_Goal := sorry

theorem law_pure : PureOk := fun n xs hn => law_all n xs hn

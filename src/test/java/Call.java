import java.util.function.ToIntFunction;

/** One call with its arguments, to be made on any object; discard, which answers nothing, counts as 0. */
record Call(String name, ToIntFunction<WordRanker> body) {
    static final Call UNIT = new Call("unit()", WordRanker::unit);
    static final Call NONE = new Call("none()", WordRanker::none);
    static final Call CAT = new Call("cat()", WordRanker::cat);
    static final Call ALT = new Call("alt()", WordRanker::alt);
    static final Call STAR = new Call("star()", WordRanker::star);
    static final Call PLUS = new Call("plus()", WordRanker::plus);
    static final Call OPT = new Call("opt()", WordRanker::opt);
    static final Call REVERSE = new Call("reverse()", WordRanker::reverse);
    static final Call DEPTH = new Call("depth()", WordRanker::depth);
    static final Call LETTERS = new Call("letters()", WordRanker::letters);
    static final Call TOTAL = new Call("total()", WordRanker::total);
    static final Call DISCARD = new Call("discard()", x -> {
        x.discard();
        return 0;
    });

    int on(WordRanker x) {
        return body.applyAsInt(x);
    }

    static Call letter(int c) {
        return new Call("letter(" + c + ")", x -> x.letter(c));
    }

    static Call store(int slot) {
        return new Call("store(" + slot + ")", x -> x.store(slot));
    }

    static Call choose(int table) {
        return new Call("choose(" + table + ")", x -> x.choose(table));
    }

    static Call count(int len) {
        return new Call("count(" + len + ")", x -> x.count(len));
    }

    static Call groups(int len) {
        return new Call("groups(" + len + ")", x -> x.groups(len));
    }

    static Call wordLen(int k) {
        return new Call("wordLen(" + k + ")", x -> x.wordLen(k));
    }

    static Call wordBits(int k) {
        return new Call("wordBits(" + k + ")", x -> x.wordBits(k));
    }

    static Call isChosen(int len, int bits) {
        return new Call("isChosen(" + len + ", " + bits + ")", x -> x.isChosen(len, bits));
    }

    static Call rank(int len, int bits) {
        return new Call("rank(" + len + ", " + bits + ")", x -> x.rank(len, bits));
    }

    static Call countFrom(int len, int bits) {
        return new Call("countFrom(" + len + ", " + bits + ")", x -> x.countFrom(len, bits));
    }
}

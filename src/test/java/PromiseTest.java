/** For each promise of the document ordinary calls, the edges that it names, and wrong arguments. */
public final class PromiseTest {
    private static final int BAD = -1, STATE = -2, FULL = -3, NONE = -9;
    private static int wrong = 0;

    public static void main(String[] args) {
        newObject();
        type();
        clear();
        load();
        fault();
        production();
        symbol();
        nonterminal();
        first();
        follow();
        ahead();
        words();
        word();
        marks();
        depth();
        approximate();
        deepest();
        clash();
        clashWord();
        parse();
        chosen();
        derivations();
        step();
        ambiguous();
        told();
        undo();
        digest();
        System.out.println(wrong == 0 ? "all promises are kept" : wrong + " answers are not as promised");
        if (wrong != 0) {
            System.exit(1);
        }
    }

    private static void due(String call, long got, long want) {
        if (got != want) {
            wrong++;
            System.out.println(call + " answered " + got + ", due is " + want);
        }
    }

    private static void write(LookaheadDepths x, String text) {
        x.clear();
        for (char c : text.toCharArray()) {
            x.type(c);
        }
    }

    private static LookaheadDepths loaded(String text) {
        LookaheadDepths x = new LookaheadDepths();
        write(x, text);
        if (x.load() < 0) {
            wrong++;
            System.out.println(text + " is no grammar");
        }
        return x;
    }

    /** The number of a word. */
    private static int w(String word) {
        int number = 0;
        for (char c : word.toCharArray()) {
            number = 6 * number + c - 'a' + 1;
        }
        return number;
    }

    private static void dueLoad(String text, int answer, int kind) {
        LookaheadDepths x = new LookaheadDepths();
        write(x, text);
        due("load() of " + text, x.load(), answer);
        due("fault() of " + text, x.fault(), kind);
        due("told(3) of " + text, x.told(3), text.length());
        due("told(4) of " + text, x.told(4), answer < 0 ? 0 : 1);
    }

    private static void newObject() {
        LookaheadDepths x = new LookaheadDepths();
        int[] told = {1, 0, 1, 0, 0, 0};
        for (int what = 0; what <= 5; what++) {
            due("told(" + what + ") of a new object", x.told(what), told[what]);
        }
        due("production(0, 0) of a new object", x.production(0, 0), 0);
        due("production(0, 1) of a new object", x.production(0, 1), 0);
        due("production(1, 0) of a new object", x.production(1, 0), BAD);
        due("fault() of a new object", x.fault(), NONE);
        due("chosen(0) of a new object", x.chosen(0), NONE);
        due("undo() of a new object", x.undo(), STATE);
        due("parse() of a new object", x.parse(), 1);
        due("derivations() of a new object", x.derivations(), 1);
        due("step(0, 0) of a new object", x.step(0, 0), 0);
        due("ambiguous() of a new object", x.ambiguous(), NONE);
        LookaheadDepths other = new LookaheadDepths();
        other.type('a');
        due("told(3) of an object beside another one", new LookaheadDepths().told(3), 0);
    }

    private static void type() {
        LookaheadDepths x = new LookaheadDepths();
        due("type(32)", x.type(32), BAD);
        due("type(127)", x.type(127), BAD);
        due("type(-1)", x.type(-1), BAD);
        due("type(33)", x.type(33), 1);
        due("type(126)", x.type(126), 2);
        for (int i = 3; i <= 100; i++) {
            due("type(97)", x.type(97), i);
        }
        due("type(97) at 100", x.type(97), FULL);
        due("type(32) at 100", x.type(32), BAD);
        due("told(3) at 100", x.told(3), 100);
    }

    private static void clear() {
        LookaheadDepths x = loaded("A=a;");
        due("clear()", x.clear(), 4);
        due("clear() again", x.clear(), 0);
        due("told(0) behind clear()", x.told(0), 1);
        due("symbol(0, 0) behind clear()", x.symbol(0, 0), 0);
        write(x, "a");
        due("derivations() of a", x.derivations(), 1);
        x.clear();
        due("derivations() of nothing", x.derivations(), 0);
    }

    private static void load() {
        dueLoad("A=;", 1, NONE);
        dueLoad("F=a|b|;", 3, NONE);
        dueLoad("A=aBcDe|EFABC;B=;C=;D=;E=;F=;", 7, NONE);
        dueLoad("A=||||||||||||||;B=;", 16, NONE);
        dueLoad("", -10, 1);
        dueLoad(";", -10, 1);
        dueLoad("a=;", -10, 1);
        dueLoad("G=;", -10, 1);
        dueLoad("A", -11, 1);
        dueLoad("AA=;", -11, 1);
        dueLoad("A=", -12, 1);
        dueLoad("A=a", -13, 1);
        dueLoad("A=f;", -12, 1);
        dueLoad("A=G;", -12, 1);
        dueLoad("A=a=;", -13, 1);
        dueLoad("A=a;;", -14, 1);
        dueLoad("A=abcde!", -17, 1);
        dueLoad("A=a;A", -14, 2);
        dueLoad("A=;B=;A!", -16, 2);
        dueLoad("A=;B=;C=;D=;E=;F=;C=;", -28, 2);
        dueLoad("A=||||||||||||||||;", -28, 3);
        dueLoad("A=||||||||||||||||", -28, 3);
        dueLoad("A=||||||||||||||||!", -28, 3);
        dueLoad("A=|||||||||||||||;B=;", -30, 3);
        dueLoad("A=|||||||||||||||;B=", -30, 3);
        dueLoad("A=abcdea;", -17, 4);
        dueLoad("A=a|AAAAAB;", -19, 4);
        dueLoad("A=B;", -12, 5);
        dueLoad("A=aCB;B=D;", -13, 5);
        dueLoad("A=aB;C=", -17, 1);
        dueLoad("A=aB;A=;", -15, 2);
        LookaheadDepths x = loaded("A=ab;");
        write(x, "A=a");
        due("a load() that fails", x.load(), -13);
        due("production(0, 1) behind it", x.production(0, 1), 2);
        due("told(4) behind it", x.told(4), 1);
    }

    private static void fault() {
        LookaheadDepths x = new LookaheadDepths();
        write(x, "A=B;");
        x.load();
        due("fault() behind a fault", x.fault(), 5);
        due("fault() again", x.fault(), 5);
        x.type('B');
        x.type('=');
        x.type(';');
        due("fault() before load()", x.fault(), 5);
        due("load() without a fault", x.load(), 2);
        due("fault() behind it", x.fault(), NONE);
    }

    private static void production() {
        LookaheadDepths x = loaded("C=aC|;B=abCde;");
        due("production(0, 0)", x.production(0, 0), 2);
        due("production(0, 1)", x.production(0, 1), 2);
        due("production(1, 1)", x.production(1, 1), 0);
        due("production(2, 0)", x.production(2, 0), 1);
        due("production(2, 1)", x.production(2, 1), 5);
        due("production(3, 0)", x.production(3, 0), BAD);
        due("production(-1, 0)", x.production(-1, 0), BAD);
        due("production(0, 2)", x.production(0, 2), BAD);
        due("production(0, -1)", x.production(0, -1), BAD);
    }

    private static void symbol() {
        LookaheadDepths x = loaded("A=aeAF|;F=;");
        int[] symbols = {0, 4, 10, 15, NONE};
        for (int i = 0; i < symbols.length; i++) {
            due("symbol(0, " + i + ")", x.symbol(0, i), symbols[i]);
        }
        due("symbol(1, 0)", x.symbol(1, 0), NONE);
        due("symbol(0, 100000)", x.symbol(0, 100000), NONE);
        due("symbol(0, -1)", x.symbol(0, -1), BAD);
        due("symbol(3, 0)", x.symbol(3, 0), BAD);
        due("symbol(-1, 0)", x.symbol(-1, 0), BAD);
        due("symbol(3, 9)", x.symbol(3, 9), BAD);
    }

    private static void dueTraits(LookaheadDepths x, int n, int... traits) {
        for (int what = 0; what <= 7; what++) {
            due("nonterminal(" + n + ", " + what + ")", x.nonterminal(n, what), traits[what]);
        }
    }

    private static void nonterminal() {
        LookaheadDepths x = loaded("A=BAa|b;B=C|;C=cB;D=DE;E=|E;");
        dueTraits(x, 0, 1, 0, 1, 1, 1, 0, 2, 1);
        dueTraits(x, 1, 1, 1, 1, 1, 0, 0, 2, 0);
        dueTraits(x, 2, 1, 0, 1, 1, 0, 0, 1, 1);
        dueTraits(x, 3, 1, 0, 0, 0, 1, 1, 1, NONE);
        dueTraits(x, 4, 1, 1, 1, 0, 1, 1, 2, 0);
        dueTraits(x, 5, 0, 0, 0, 0, 0, 0, 0, NONE);
        due("nonterminal(6, 0)", x.nonterminal(6, 0), BAD);
        due("nonterminal(-1, 0)", x.nonterminal(-1, 0), BAD);
        due("nonterminal(0, 8)", x.nonterminal(0, 8), BAD);
        due("nonterminal(0, -1)", x.nonterminal(0, -1), BAD);
        LookaheadDepths chain = loaded("A=BBBBB;B=CCCCC;C=DDDDD;D=EEEEE;E=FFFFF;F=aaaaa;");
        due("the longest shortest word", chain.nonterminal(0, 7), 15625);
        LookaheadDepths pair = loaded("A=BCA;B=;C=a;D=BDB;E=aE;");
        dueTraits(pair, 0, 1, 0, 0, 1, 0, 0, 1, NONE);
        dueTraits(pair, 3, 1, 0, 0, 0, 1, 1, 1, NONE);
        dueTraits(pair, 4, 1, 0, 0, 0, 0, 0, 1, NONE);
        LookaheadDepths indirect = loaded("A=BA|;B=A;");
        dueTraits(indirect, 0, 1, 1, 1, 1, 1, 1, 2, 0);
        dueTraits(indirect, 1, 1, 1, 1, 1, 1, 1, 1, 0);
    }

    private static void first() {
        LookaheadDepths x = loaded("A=aAb|c;B=B;");
        due("first by 3", x.first(0, 3, w("aac")), 1);
        due("first by 3, cut", x.first(0, 3, w("acb")), 1);
        due("first by 3, whole", x.first(0, 3, w("c")), 1);
        due("first by 3, cut too far", x.first(0, 3, w("ac")), 0);
        due("first by 2", x.first(0, 2, w("ac")), 1);
        due("first by 1", x.first(0, 1, w("a")), 1);
        due("first by 1, no", x.first(0, 1, w("b")), 0);
        due("first by 0", x.first(0, 0, 0), 1);
        due("first of an unproductive one", x.first(1, 0, 0), 0);
        due("first, undefined", x.first(2, 0, 0), BAD);
        due("first(6, ..)", x.first(6, 0, 0), BAD);
        due("first(-1, ..)", x.first(-1, 0, 0), BAD);
        due("first, k 4", x.first(0, 4, 0), BAD);
        due("first, k -1", x.first(0, -1, 0), BAD);
        due("first, word -1", x.first(0, 3, -1), BAD);
        due("first, word 6", x.first(0, 3, 6), BAD);
        due("first, word 36", x.first(0, 3, 36), BAD);
        due("first, word 37", x.first(0, 3, 37), BAD);
        due("first, word 48", x.first(0, 3, 48), BAD);
        due("first, word 216", x.first(0, 3, 216), BAD);
        due("first, word 215", x.first(0, 3, 215), 0);
        due("first by 2, word 43", x.first(0, 2, 43), BAD);
        due("first by 0, word 1", x.first(0, 0, 1), BAD);
    }

    private static void follow() {
        LookaheadDepths x = loaded("A=BCd|a;B=b|;C=cB|;D=dD;E=EA;");
        due("follow of the start", x.follow(0, 3, 0), 1);
        due("follow of B, end", x.follow(1, 3, 0), 0);
        due("follow of B, cbd", x.follow(1, 3, w("cbd")), 1);
        due("follow of B, cd", x.follow(1, 3, w("cd")), 1);
        due("follow of B, d", x.follow(1, 3, w("d")), 1);
        due("follow of B by 1, c", x.follow(1, 1, w("c")), 1);
        due("follow of B by 1, b", x.follow(1, 1, w("b")), 0);
        due("follow of one that is not reachable", x.follow(3, 0, 0), 0);
        LookaheadDepths left = loaded("A=BCd;B=B;C=c;");
        due("follow behind an unproductive one", left.follow(2, 2, w("d")), 1);
        due("follow before an unproductive one", loaded("A=CB;B=B;C=c;").words(1, 2, 3), 0);
        due("follow, undefined", x.follow(5, 0, 0), BAD);
        due("follow(6, ..)", x.follow(6, 0, 0), BAD);
        due("follow, k 4", x.follow(0, 4, 0), BAD);
        due("follow, word 6", x.follow(0, 2, 6), BAD);
        due("follow, word too long", x.follow(0, 1, 7), BAD);
    }

    private static void ahead() {
        LookaheadDepths x = loaded("A=aBc;B=b|;C=a;");
        due("ahead(0, 3, abc)", x.ahead(0, 3, w("abc")), 1);
        due("ahead(0, 3, ac)", x.ahead(0, 3, w("ac")), 1);
        due("ahead(1, 3, bc)", x.ahead(1, 3, w("bc")), 1);
        due("ahead(2, 3, c)", x.ahead(2, 3, w("c")), 1);
        due("ahead(2, 3, 0)", x.ahead(2, 3, 0), 0);
        due("ahead(2, 0, 0)", x.ahead(2, 0, 0), 1);
        due("ahead(3, 0, 0), not reachable", x.ahead(3, 0, 0), 0);
        due("ahead(4, 0, 0)", x.ahead(4, 0, 0), BAD);
        due("ahead(-1, 0, 0)", x.ahead(-1, 0, 0), BAD);
        due("ahead(0, 4, 0)", x.ahead(0, 4, 0), BAD);
        due("ahead(0, -1, 0)", x.ahead(0, -1, 0), BAD);
        due("ahead(0, 1, 6)", x.ahead(0, 1, 6), BAD);
        due("ahead(0, 3, -5)", x.ahead(0, 3, -5), BAD);
    }

    private static void words() {
        LookaheadDepths x = loaded("A=BBBB;B=a|b|c|d|e|;C=C;");
        due("words(0, 0, 3)", x.words(0, 0, 3), 156);
        due("words(0, 0, 2)", x.words(0, 0, 2), 31);
        due("words(0, 0, 1)", x.words(0, 0, 1), 6);
        due("words(0, 0, 0)", x.words(0, 0, 0), 1);
        due("words(1, 0, 3)", x.words(1, 0, 3), 1);
        due("words(1, 1, 3)", x.words(1, 1, 3), 156);
        due("words(2, 1, 3)", x.words(2, 1, 3), 31);
        due("words(2, 6, 2)", x.words(2, 6, 2), 31);
        due("words(0, 2, 0)", x.words(0, 2, 0), 0);
        due("words(3, 0, 0)", x.words(3, 0, 0), BAD);
        due("words(-1, 0, 0)", x.words(-1, 0, 0), BAD);
        due("words(0, 3, 0)", x.words(0, 3, 0), BAD);
        due("words(1, -1, 0)", x.words(1, -1, 0), BAD);
        due("words(1, 6, 0)", x.words(1, 6, 0), BAD);
        due("words(2, 8, 0)", x.words(2, 8, 0), BAD);
        due("words(2, -1, 0)", x.words(2, -1, 0), BAD);
        due("words(0, 0, 4)", x.words(0, 0, 4), BAD);
        due("words(0, 0, -1)", x.words(0, 0, -1), BAD);
    }

    private static void word() {
        LookaheadDepths x = loaded("A=B;B=e|ba|abc|abd|;");
        int[] numbers = {0, w("e"), w("ba"), w("abc"), w("abd"), NONE};
        for (int i = 0; i < numbers.length; i++) {
            due("word(0, 3, " + i + ")", x.word(0, 3, i), numbers[i]);
        }
        due("word(0, 2, 2)", x.word(0, 2, 2), w("ab"));
        due("word(0, 2, 3)", x.word(0, 2, 3), w("ba"));
        due("word(0, 2, 4)", x.word(0, 2, 4), NONE);
        due("word(0, 0, 0)", x.word(0, 0, 0), 0);
        due("word(0, 0, 1)", x.word(0, 0, 1), NONE);
        due("word(0, 3, 1000000)", x.word(0, 3, 1000000), NONE);
        due("word(0, 3, -1)", x.word(0, 3, -1), BAD);
        due("word(6, 3, 0)", x.word(6, 3, 0), BAD);
        due("word(-1, 3, 0)", x.word(-1, 3, 0), BAD);
        due("word(0, 4, 0)", x.word(0, 4, 0), BAD);
    }

    private static void marks() {
        LookaheadDepths x = loaded("A=aBe|Bd;B=bc|;C=a;");
        due("marks(0, 0)", x.marks(0, 0), 1);
        due("marks(0, 1)", x.marks(0, 1), 2 + 16);
        due("marks(0, 2)", x.marks(0, 2), 4 + 32);
        due("marks(1, 0)", x.marks(1, 0), 2 + 8);
        due("marks(1, 1)", x.marks(1, 1), 4 + 32);
        due("marks(1, 2)", x.marks(1, 2), 8 + 32);
        due("marks(4, 0)", x.marks(4, 0), 0);
        due("marks(0, 0) of the first grammar", new LookaheadDepths().marks(0, 0), 32);
        due("marks(0, 2) of the first grammar", new LookaheadDepths().marks(0, 2), 32);
        due("marks(0, 3)", x.marks(0, 3), BAD);
        due("marks(0, -1)", x.marks(0, -1), BAD);
        due("marks(5, 0)", x.marks(5, 0), BAD);
        due("marks(-1, 0)", x.marks(-1, 0), BAD);
    }

    private static void depth() {
        due("depth 0", loaded("A=aA;").depth(0), 0);
        due("depth 1", loaded("A=aA|b;").depth(0), 1);
        due("depth 2", loaded("A=ab|ac;").depth(0), 2);
        due("depth 2, at the end", loaded("A=ab|a;").depth(0), 2);
        due("depth 3", loaded("A=aab|aac;").depth(0), 3);
        due("no depth", loaded("A=aaab|aaac;").depth(0), NONE);
        due("depth of two that have no words ahead", loaded("A=a;B=a|a;").depth(1), 0);
        due("depth of the same twice", loaded("A=a|a;").depth(0), NONE);
        due("depth, undefined", loaded("A=a;").depth(1), BAD);
        due("depth(-1)", loaded("A=a;").depth(-1), BAD);
        due("depth(6)", loaded("A=a;").depth(6), BAD);
    }

    private static void approximate() {
        due("approximate 0", loaded("A=aA;").approximate(0), 0);
        due("approximate 1", loaded("A=aA|b;").approximate(0), 1);
        due("approximate 2", loaded("A=ab|ac;").approximate(0), 2);
        due("approximate 3", loaded("A=aab|aac;").approximate(0), 3);
        LookaheadDepths x = loaded("A=B|C;B=ab|ba;C=aa|bb;");
        due("depth by whole words", x.depth(0), 2);
        due("approximate by marks", x.approximate(0), NONE);
        due("approximate at several places", loaded("A=ab|ac|b;").approximate(0), 2);
        due("approximate of two that have no words ahead", loaded("A=a;B=a|a;").approximate(1), 1);
        due("approximate, undefined", loaded("A=a;").approximate(1), BAD);
        due("approximate(-1)", loaded("A=a;").approximate(-1), BAD);
        due("approximate(6)", loaded("A=a;").approximate(6), BAD);
    }

    private static void deepest() {
        LookaheadDepths x = loaded("A=aB|bC|c;B=ab|ac;C=a;");
        due("deepest(false)", x.deepest(false), 2);
        due("deepest(true)", x.deepest(true), 2);
        LookaheadDepths y = loaded("A=B|C;B=ab|ba;C=aa|bb;");
        due("deepest(false), whole words", y.deepest(false), 2);
        due("deepest(true), whole words", y.deepest(true), NONE);
        due("deepest(false), not reachable", loaded("A=a;B=aaaa|aaaa;").deepest(false), 0);
        due("deepest(false), ambiguous", loaded("A=B;B=a|a;").deepest(false), NONE);
        due("deepest(true), not reachable", loaded("A=a;B=a|a;").deepest(true), 1);
        due("deepest(false) of the first grammar", new LookaheadDepths().deepest(false), 0);
    }

    private static void clash() {
        LookaheadDepths x = loaded("B=a;A=b|ab|ac|aba;");
        due("clash(0, 0), not reachable", x.clash(0, 0), NONE);
        LookaheadDepths y = loaded("B=A;A=b|ab|ac|aba;");
        due("clash(0, 0)", y.clash(0, 0), 102);
        due("clash(0, 1)", y.clash(0, 1), 203);
        due("clash(0, 2)", y.clash(0, 2), 204);
        due("clash(0, 3)", y.clash(0, 3), NONE);
        due("clash(1, 0), one production", y.clash(1, 0), NONE);
        due("clash(2, 0)", y.clash(2, 0), BAD);
        due("clash(-1, 0)", y.clash(-1, 0), BAD);
        due("clash(6, 0)", y.clash(6, 0), BAD);
        due("clash(0, 4)", y.clash(0, 4), BAD);
        due("clash(0, -1)", y.clash(0, -1), BAD);
    }

    private static void clashWord() {
        LookaheadDepths x = loaded("A=aBb|ab|B;B=c|;");
        due("clashWord(0, 1, 3)", x.clashWord(0, 1, 3), w("ab"));
        due("clashWord(1, 0, 1)", x.clashWord(1, 0, 1), w("a"));
        due("clashWord(0, 1, 0)", x.clashWord(0, 1, 0), 0);
        due("clashWord(0, 2, 1)", x.clashWord(0, 2, 1), NONE);
        due("clashWord of two left sides", x.clashWord(2, 3, 3), w("c"));
        due("clashWord of one with itself", x.clashWord(2, 2, 3), 0);
        due("clashWord of one with itself, 0", x.clashWord(0, 0, 3), w("ab"));
        due("clashWord(5, 0, 3)", x.clashWord(5, 0, 3), BAD);
        due("clashWord(0, 5, 3)", x.clashWord(0, 5, 3), BAD);
        due("clashWord(-1, 0, 3)", x.clashWord(-1, 0, 3), BAD);
        due("clashWord(0, -1, 3)", x.clashWord(0, -1, 3), BAD);
        due("clashWord(0, 0, 4)", x.clashWord(0, 0, 4), BAD);
        due("clashWord(0, 0, -1)", x.clashWord(0, 0, -1), BAD);
        LookaheadDepths y = loaded("A=B;B=B;");
        due("clashWord without words", y.clashWord(0, 0, 3), NONE);
    }

    private static void dueParse(LookaheadDepths x, String input, int answer, int... choices) {
        write(x, input);
        due("parse() of " + input, x.parse(), answer);
        due("told(5) of " + input, x.told(5), choices.length);
        for (int i = 0; i < choices.length; i++) {
            due("chosen(" + i + ") of " + input, x.chosen(i), choices[i]);
        }
        due("chosen(" + choices.length + ") of " + input, x.chosen(choices.length), NONE);
        due("chosen(-1) of " + input, x.chosen(-1), BAD);
    }

    private static void parse() {
        LookaheadDepths x = loaded("A=aAb|B;B=cB|;");
        dueParse(x, "aaccbb", 6, 0, 0, 1, 2, 2, 3);
        dueParse(x, "", 2, 1, 3);
        dueParse(x, "ab", 3, 0, 1, 3);
        dueParse(x, "aab", -13, 0, 0, 1, 3);
        dueParse(x, "abb", -12, 0, 1, 3);
        dueParse(x, "d", -10);
        dueParse(x, "ad", -11, 0);
        dueParse(x, "cccccccc", 10, 1, 2, 2, 2, 2, 2, 2, 2, 2, 3);
        dueParse(x, "ccccccccc", -108);
        dueParse(x, "ccf", -102);
        dueParse(x, "cccccccc!", -108);
        dueParse(x, "A=a;", -100);
        LookaheadDepths two = loaded("A=ab|ac|;");
        dueParse(two, "ac", 1, 1);
        dueParse(two, "a", -10);
        dueParse(two, "abb", -12, 0);
        dueParse(loaded("A=Aa|b;B=;"), "b", STATE);
        dueParse(loaded("A=a|a;"), "!", STATE);
        dueParse(loaded("A=a;B=B;"), "a", 1, 0);
        dueParse(loaded("A=BB|c;B=B;"), "c", STATE);
        dueParse(loaded("A=bB|c;B=aB;"), "bb", -10, 1);
        dueParse(loaded("A=aB|c;B=a|b;"), "aa", 2, 0, 2);
        LookaheadDepths wide = loaded("A=BBBBB;B=CCCCC;C=DD;D=;");
        int[] choices = new int[60];
        int[] block = {2, 3, 3, 2, 3, 3, 2, 3, 3, 2, 3, 3, 2, 3, 3};
        int n = 1;
        for (int b = 0; b < 4 && n < 60; b++) {
            choices[n++] = 1;
            for (int i = 0; i < block.length && n < 60; i++) {
                choices[n++] = block[i];
            }
        }
        dueParse(wide, "", -10, choices);
        due("chosen(59) of the wide one", wide.chosen(59), choices[59]);
        LookaheadDepths just = loaded("A=BBBBB;B=CCCD;C=DD;D=;");
        write(just, "");
        due("56 productions", just.parse(), 56);
        LookaheadDepths exact = loaded("A=BBBCD;B=EEEEE;E=DD;D=;C=DDDDD;");
        write(exact, "");
        due("56 productions again", exact.parse(), 56);
        LookaheadDepths full = loaded("A=BBBCF;B=EEEEE;E=DD;D=;C=DDDDD;F=DDDD;");
        write(full, "");
        due("60 productions", full.parse(), 60);
        LookaheadDepths over = loaded("A=BBBCF;B=EEEEE;E=DD;D=;C=DDDDD;F=DDDDD;");
        write(over, "");
        due("61 productions", over.parse(), -10);
        due("told(5) of 61", over.told(5), 60);
        LookaheadDepths rest = loaded("A=CDDDe;C=aEB;D=EEBBB;E=aFFFF;B=F;F=;");
        write(rest, "aaaaaaaa");
        due("60 productions and 8 letters, but a letter too few", rest.parse(), -18);
        due("told(5) of it", rest.told(5), 60);
    }

    private static void chosen() {
        LookaheadDepths x = loaded("A=aA|;");
        due("chosen(0) before parse()", x.chosen(0), NONE);
        due("chosen(-1) before parse()", x.chosen(-1), BAD);
        dueParse(x, "aa", 3, 0, 0, 1);
        write(x, "A=;");
        x.load();
        due("chosen(2) of the grammar before", x.chosen(2), 1);
        due("told(5) of the grammar before", x.told(5), 3);
        x.undo();
        due("chosen(2) behind undo()", x.chosen(2), 1);
        dueParse(x, "af", -101);
        dueParse(x, "a", 2, 0, 1);
        write(x, "A=A;");
        x.load();
        x.parse();
        due("chosen(0) behind STATE", x.chosen(0), NONE);
        due("chosen(1000000)", x.chosen(1000000), NONE);
    }

    private static void dueCount(LookaheadDepths x, String input, int answer) {
        write(x, input);
        due("derivations() of " + input, x.derivations(), answer);
    }

    private static void derivations() {
        LookaheadDepths x = loaded("A=AA|a;");
        int[] catalan = {0, 1, 1, 2, 5, 14, 42, 132, 429};
        for (int n = 0; n <= 8; n++) {
            dueCount(x, "aaaaaaaa".substring(0, n), catalan[n]);
        }
        dueCount(x, "aab", 0);
        dueCount(x, "aaaaaaaaa", -108);
        dueCount(x, "aAa", -101);
        dueCount(x, "aaaaaaaaA", -108);
        dueCount(loaded("A=a|a|a;"), "a", 3);
        dueCount(loaded("A=BBBBB;B=|||||||||||||;"), "", 537824);
        dueCount(loaded("A=BBBBB;B=CC;C=||||||||;"), "", 1000000000);
        dueCount(loaded("A=BCD;B=EEE;C=EEE;D=EEE;E=|||||||||;"), "", 1000000000);
        dueCount(loaded("A=BCC;B=EEE;C=EEE;E=|||||||||;"), "", 1000000000);
        dueCount(loaded("A=BC;B=EEEE;C=EEEE;E=|||||||||;"), "", 100000000);
        dueCount(loaded("A=BCB;B=EEEE;C=|||;E=||||||;"), "", 4 * 2401 * 2401);
        dueCount(loaded("A=AB|;B=|b;"), "", STATE);
        dueCount(loaded("A=A|a;"), "!", STATE);
        dueCount(loaded("A=aB|a;B=B;"), "a", STATE);
        dueCount(loaded("A=a;B=B;"), "a", 1);
        dueCount(loaded("A=Ba|Cb|;B=Cb;C=Ba|c;"), "cbab", 1);
        dueCount(loaded("A=BAc|d;B=|b;"), "bdcc", 2);
        dueCount(loaded("A=Ab|B;B=C;C=D;D=E;E=F;F=a;"), "abb", 1);
        LookaheadDepths typed = loaded("A=aA|a;");
        dueCount(typed, "a", 1);
        typed.type('b');
        due("derivations() behind type()", typed.derivations(), 0);
    }

    private static void dueSteps(LookaheadDepths x, int j, int... steps) {
        for (int i = 0; i < steps.length; i++) {
            due("step(" + j + ", " + i + ")", x.step(j, i), steps[i]);
        }
        due("step(" + j + ", " + steps.length + ")", x.step(j, steps.length), NONE);
    }

    private static void step() {
        LookaheadDepths x = loaded("A=AA|a;");
        write(x, "aaa");
        dueSteps(x, 0, 0, 0, 1, 1, 1);
        dueSteps(x, 1, 0, 1, 0, 1, 1);
        write(x, "a");
        dueSteps(x, 0, 1);
        dueSteps(x, 1);
        write(x, "b");
        dueSteps(x, 0);
        x.type('!');
        due("step, a fault of the text", x.step(0, 0), -101);
        due("step(-1, 0)", x.step(-1, 0), BAD);
        due("step(2, 0)", x.step(2, 0), BAD);
        due("step(0, -1)", x.step(0, -1), BAD);
        due("step(0, 200)", x.step(0, 200), BAD);
        LookaheadDepths cyclic = loaded("A=A|;");
        due("step, STATE", cyclic.step(0, 0), STATE);
        due("step, BAD before STATE", cyclic.step(0, 200), BAD);
        LookaheadDepths order = loaded("A=Bb|Ca;C=a|;B=|a|a;");
        write(order, "a");
        dueSteps(order, 0, 1, 3);
        write(order, "ab");
        dueSteps(order, 0, 0, 5);
        dueSteps(order, 1, 0, 6);
        LookaheadDepths tall = loaded("A=BBBBB;B=CCCCC;C=DDDDD;D=EEEEE;E=FFFFF;F=|;");
        write(tall, "");
        due("derivations() of a tall one", tall.derivations(), 1000000000);
        int[] tops = {0, 1, 2, 3, 4, 5, 5, 5, 5, 5, 4};
        for (int i = 0; i < tops.length; i++) {
            due("step(0, " + i + ") of a tall one", tall.step(0, i), tops[i]);
            due("step(1, " + i + ") of a tall one", tall.step(1, i), tops[i]);
        }
        due("step(0, 199) of a tall one", tall.step(0, 199), 5);
        due("step(1, 199) of a tall one", tall.step(1, 199), 5);
        LookaheadDepths last = loaded("A=BBBBB;B=CCCCC;C=||a;");
        write(last, "a");
        due("step(0, 30) of the last", last.step(0, 30), 4);
        due("step(1, 30) of the last", last.step(1, 30), 4);
        due("step(1, 29) of the last", last.step(1, 29), 3);
        due("step(0, 31) of the last", last.step(0, 31), NONE);
    }

    private static void ambiguous() {
        due("ambiguous, empty word", loaded("A=|;").ambiguous(), 0);
        due("ambiguous, aaa", loaded("A=AA|a;").ambiguous(), w("aaa"));
        due("ambiguous, the order of words", loaded("A=ed|ed|ab|e|da|da;").ambiguous(), w("da"));
        due("ambiguous, four letters", loaded("A=eeee|eeee|a;").ambiguous(), w("eeee"));
        due("ambiguous, five letters", loaded("A=eeeee|eeeee|a;").ambiguous(), NONE);
        due("ambiguous, none", loaded("A=aAa|;").ambiguous(), NONE);
        due("ambiguous, not reachable", loaded("A=a;B=|;").ambiguous(), NONE);
        due("ambiguous, cyclic", loaded("A=A|a;").ambiguous(), STATE);
        due("ambiguous, cyclic but not reachable", loaded("A=a;B=B;").ambiguous(), NONE);
        LookaheadDepths x = loaded("A=aB|ab;B=b|;");
        due("ambiguous, ab", x.ambiguous(), w("ab"));
        write(x, "A=b|b;");
        due("ambiguous before load()", x.ambiguous(), w("ab"));
        x.load();
        due("ambiguous behind load()", x.ambiguous(), w("b"));
        x.undo();
        due("ambiguous behind undo()", x.ambiguous(), w("ab"));
    }

    private static void told() {
        LookaheadDepths x = loaded("C=aF|;F=b;A=;");
        int[] numbers = {4, 2, 1 + 4 + 32, 13, 1, 0};
        for (int what = 0; what <= 5; what++) {
            due("told(" + what + ")", x.told(what), numbers[what]);
        }
        due("told(-1)", x.told(-1), BAD);
        due("told(6)", x.told(6), BAD);
        dueParse(x, "ab", 2, 0, 2);
        write(x, "");
        due("told(3) of an empty text", x.told(3), 0);
    }

    private static void undo() {
        LookaheadDepths x = new LookaheadDepths();
        for (int n = 1; n <= 6; n++) {
            write(x, "A=" + "|||||".substring(0, n - 1) + ";");
            x.load();
            due("told(4) behind load() " + n, x.told(4), Math.min(4, n));
        }
        write(x, "aaaaaa!");
        x.load();
        for (int n = 5; n >= 2; n--) {
            due("undo()", x.undo(), n - 2);
            due("told(0) behind undo()", x.told(0), n);
        }
        due("undo() without any", x.undo(), STATE);
        due("told(0) behind it", x.told(0), 2);
        due("told(3) behind it", x.told(3), 7);
        due("fault() behind it", x.fault(), 1);
        write(x, "B=bB;");
        x.load();
        due("undo() of one", x.undo(), 0);
        due("told(1) behind it", x.told(1), 0);
        due("depth(0) behind it", x.depth(0), NONE);
        due("depth(1) behind it", x.depth(1), BAD);
        LookaheadDepths y = loaded("A=a;");
        write(y, "A=aa|aa;");
        y.load();
        write(y, "aa");
        due("derivations() before undo()", y.derivations(), 2);
        y.undo();
        due("derivations() behind undo()", y.derivations(), 0);
    }

    private static long mixed(long... values) {
        long h = 17313;
        for (long v : values) {
            h = 31 * h + v;
        }
        return h;
    }

    private static void digest() {
        LookaheadDepths x = new LookaheadDepths();
        due("digest() of a new object", x.digest(), mixed(1, 0, 1, 0, 0, 0, 0, 0, 1, 1, 1, 1, 32, 32, 32,
            0, 1, 1, 1, 0, 0, 1, 0, 1, 1, 0, 0, NONE, 0, 0, NONE));
        write(x, "B=aB|b;");
        x.load();
        write(x, "ab");
        x.parse();
        due("digest()", x.digest(), mixed(2, 1, 2, 2, 1, 2,
            1, 2, 0, 11, 1, 1, 2, 3, 1, 3, 35,
            1, 1, 1, 1, 1, 1, 1, 2, 32, 32,
            1, 0, 1, 1, 0, 0, 2, 1, 4, 1, 1, 1, NONE, 1, 1, 0, 1, NONE));
        x.load();
        due("digest() behind a fault", x.digest(), mixed(2, 1, 2, 2, 1, 2,
            1, 2, 0, 11, 1, 1, 2, 3, 1, 3, 35,
            1, 1, 1, 1, 1, 1, 1, 2, 32, 32,
            1, 0, 1, 1, 0, 0, 2, 1, 4, 1, 1, 1, NONE, 1, 1, 0, 1, 1));
    }
}

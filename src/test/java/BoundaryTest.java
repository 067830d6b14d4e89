import java.io.IOException;
import java.math.BigInteger;
import java.nio.file.Files;
import java.nio.file.Path;
import java.util.ArrayList;
import java.util.LinkedHashMap;
import java.util.List;
import java.util.Map;
import java.util.function.ToIntFunction;

/**
 * A test for each sentence of the document that names a boundary case. Each stands behind the promise (or the part of
 * the description) and the sentence that it is for; the sentences must stand in the document word by word.
 * With the argument "unquoted" it prints what of the document no test is for.
 */
public final class BoundaryTest {
    private static final int BAD = -1, STATE = -2, FULL = -3, NONE = -9;
    private static final int LEAST = Integer.MIN_VALUE, MOST = Integer.MAX_VALUE;
    private static final Path DOCUMENT = Path.of("..", "shared", "DOC.md");

    private static final Map<String, String> PARTS = new LinkedHashMap<>();
    private static final Map<String, String> UNQUOTED = new LinkedHashMap<>();
    private static int wrong = 0;
    private static int sentences = 0;
    private static int checks = 0;
    private static int checksBefore = 0;
    private static String part = "";
    private static String sentence = "";

    public static void main(String[] args) throws IOException {
        readDocument();
        description();
        promises();
        endSentence();
        for (Map.Entry<String, String> left : UNQUOTED.entrySet()) {
            if (left.getValue().equals(PARTS.get(left.getKey()))) {
                complain("no sentence of " + left.getKey() + " has a test");
            }
            if (args.length > 0) {
                System.out.println("== " + left.getKey() + "\n" + left.getValue().replaceAll("(#\\s*)+", "\n"));
            }
        }
        System.out.println(sentences + " sentences, " + checks + " answers, " + wrong + " wrong");
        if (wrong != 0) {
            System.exit(1);
        }
    }

    // ---- the document

    /** Where the document is not at hand, the answers are still checked, but not the quotations. */
    private static void readDocument() throws IOException {
        if (!Files.isReadable(DOCUMENT)) {
            System.out.println("the quotations are not compared, as there is no " + DOCUMENT);
            return;
        }
        String document = plain(Files.readString(DOCUMENT));
        String[] titles = {"RETURN VALUES", "GRAMMARS", "WORDS AHEAD", "PARSING", "TEXTS", "HISTORY"};
        for (int i = 0; i < titles.length; i++) {
            String next = i + 1 < titles.length ? " " + titles[i + 1] : " The constructor and the methods follow";
            keep(titles[i], between(document, " " + titles[i], next));
        }
        for (int n = 1; n <= 27; n++) {
            String next = n < 27 ? "## Promise " + (n + 1) + ":" : "## Not promised";
            keep("promise " + n, between(document, "## Promise " + n + ":", next));
        }
        keep("What it is", between(document, "## What it is", "## The public face"));
    }

    private static String plain(String text) {
        return text.replace("`", "").replaceAll("\\s+", " ");
    }

    private static String between(String text, String from, String to) {
        int begin = text.indexOf(from);
        int end = text.indexOf(to, begin + 1);
        if (begin < 0 || end < 0) {
            complain("the document has nothing between " + from + " and " + to);
            return "";
        }
        return text.substring(begin, end);
    }

    private static void keep(String title, String text) {
        PARTS.put(title, text);
        UNQUOTED.put(title, text);
    }

    private static void promise(int n) {
        endSentence();
        part = "promise " + n;
    }

    private static void part(String title) {
        endSentence();
        part = title;
    }

    /** Says which sentence of the present part the checks that follow are for. */
    private static void sentence(String words) {
        endSentence();
        sentence = words;
        sentences++;
        checksBefore = checks;
        if (PARTS.isEmpty()) {
            return;
        }
        if (!PARTS.get(part).contains(words)) {
            complain("the document does not say so");
        }
        UNQUOTED.put(part, UNQUOTED.get(part).replace(words, "#"));
    }

    private static void endSentence() {
        if (!sentence.isEmpty() && checks == checksBefore) {
            complain("nothing was checked");
        }
        sentence = "";
    }

    // ---- what the tests are made of

    private static void complain(String what) {
        wrong++;
        System.out.println(part + ", \"" + sentence + "\": " + what);
    }

    private static void due(String call, long got, long want) {
        checks++;
        if (got != want) {
            complain(call + " answered " + got + ", due is " + want);
        }
    }

    private static void write(LookaheadDepths x, String text) {
        x.clear();
        for (char c : text.toCharArray()) {
            x.type(c);
        }
    }

    private static LookaheadDepths empty() {
        return new LookaheadDepths();
    }

    /** An object whose text buffer has this text. */
    private static LookaheadDepths typed(String text) {
        LookaheadDepths x = new LookaheadDepths();
        write(x, text);
        return x;
    }

    /** An object that has loaded this grammar; its text buffer still has the text. */
    private static LookaheadDepths loaded(String grammar) {
        LookaheadDepths x = typed(grammar);
        if (x.load() < 0) {
            complain(grammar + " is no grammar");
        }
        return x;
    }

    private static LookaheadDepths loaded(String grammar, String input) {
        LookaheadDepths x = loaded(grammar);
        write(x, input);
        return x;
    }

    private static LookaheadDepths parsed(String grammar, String input) {
        LookaheadDepths x = loaded(grammar, input);
        x.parse();
        return x;
    }

    private static void dueLoad(String text, int answer, int kind) {
        LookaheadDepths x = typed(text);
        due("load() of " + text, x.load(), answer);
        due("fault() of " + text, x.fault(), kind);
    }

    private static void dueParse(String grammar, String input, int answer, int... choices) {
        LookaheadDepths x = loaded(grammar, input);
        String call = "parse() of " + input + " by " + grammar;
        due(call, x.parse(), answer);
        due(call + ", told(5)", x.told(5), choices.length);
        for (int i = 0; i < choices.length; i++) {
            due(call + ", chosen(" + i + ")", x.chosen(i), choices[i]);
        }
        due(call + ", chosen(" + choices.length + ")", x.chosen(choices.length), NONE);
    }

    private static void dueCount(String grammar, String input, int answer) {
        due("derivations() of " + input + " by " + grammar, loaded(grammar, input).derivations(), answer);
    }

    private static void dueSteps(String grammar, String input, int j, int... steps) {
        LookaheadDepths x = loaded(grammar, input);
        for (int i = 0; i < steps.length; i++) {
            due("step(" + j + ", " + i + ") of " + input + " by " + grammar, x.step(j, i), steps[i]);
        }
        due("step(" + j + ", " + steps.length + ") of " + input + " by " + grammar, x.step(j, steps.length), NONE);
    }

    private static void dueAmbiguous(String grammar, int answer) {
        due("ambiguous() of " + grammar, loaded(grammar).ambiguous(), answer);
    }

    private static void dueProperty(String grammar, int what, int... properties) {
        LookaheadDepths x = loaded(grammar);
        for (int n = 0; n < properties.length; n++) {
            due("nonterminal(" + n + ", " + what + ") of " + grammar, x.nonterminal(n, what), properties[n]);
        }
    }

    private static void dueWordsAhead(String grammar, int p, int k, String... words) {
        LookaheadDepths x = loaded(grammar);
        for (int i = 0; i < words.length; i++) {
            due("word(" + p + ", " + k + ", " + i + ") of " + grammar, x.word(p, k, i), w(words[i]));
        }
        due("word(" + p + ", " + k + ", " + words.length + ") of " + grammar, x.word(p, k, words.length), NONE);
    }

    private static void dueDepths(String grammar, int depth, int approximate) {
        LookaheadDepths x = loaded(grammar);
        due("depth(0) of " + grammar, x.depth(0), depth);
        due("approximate(0) of " + grammar, x.approximate(0), approximate);
    }

    /** The number of a word. */
    private static int w(String word) {
        int number = 0;
        for (char c : word.toCharArray()) {
            number = 6 * number + c - 'a' + 1;
        }
        return number;
    }

    private static String times(String text, int n) {
        return text.repeat(n);
    }

    /** A grammar with 16 productions of five symbols each, which has exactly 100 bytes. */
    private static String fullGrammar() {
        return "A=abcde" + times("|eBBBB", 7) + ";B=edcba" + times("|AAAAA", 7) + ";";
    }

    // ---- the description

    private static void description() {
        calls();
        returnValues();
        grammars();
        derivationsOfWords();
        kindsOfNonterminals();
        wordsAhead();
        depthsAndMarks();
        parsing();
        faultsOfTexts();
        faultsInOrder();
        faultsOfInputs();
        historyLimits();
    }

    private static void calls() {
        part("What it is");
        sentence("An object is used for at most 512 calls after it has been made");
        LookaheadDepths x = empty();
        int calls = 0;
        for (char c : "A=aA|;".toCharArray()) {
            x.type(c);
            calls++;
        }
        for (; calls < 507; calls++) {
            due("load(), call " + calls, x.load(), 2);
        }
        due("clear(), call 508", x.clear(), 6);
        due("type('a'), call 509", x.type('a'), 1);
        due("parse(), call 510", x.parse(), 2);
        due("derivations(), call 511", x.derivations(), 1);
        due("told(4), call 512", x.told(4), 4);
    }

    private static void returnValues() {
        part("RETURN VALUES");
        sentence("BAD (-1): an argument is out of range, or there is no such thing");
        due("BAD", LookaheadDepths.BAD, -1);
        due("type(32)", empty().type(32), -1);
        due("production(1, 0)", empty().production(1, 0), -1);
        sentence("STATE (-2): the call is not possible at present, as the method says");
        due("STATE", LookaheadDepths.STATE, -2);
        due("undo()", empty().undo(), -2);
        sentence("FULL (-3): a limit is reached");
        due("FULL", LookaheadDepths.FULL, -3);
        due("type(97) at 100", typed(times("a", 100)).type(97), -3);
        sentence("If several of them apply to a call, the first one in this order is returned.");
        LookaheadDepths full = typed(times("a", 100));
        due("type(32) at 100", full.type(32), BAD);
        due("type(127) at 100", full.type(127), BAD);
        LookaheadDepths cyclic = loaded("A=A|a;");
        due("step(2, 0) where STATE applies", cyclic.step(2, 0), BAD);
        due("step(-1, 0) where STATE applies", cyclic.step(-1, 0), BAD);
        due("step(0, 200) where STATE applies", cyclic.step(0, 200), BAD);
        due("step(0, -1) where STATE applies", cyclic.step(0, -1), BAD);
        sentence("A call that returns an error code, or -10 or less, changes nothing");
        refusedCalls();
        sentence("(but see load() and parse())");
        LookaheadDepths refusedLoad = rich("A=F;");
        due("fault()", refusedLoad.fault(), 1);
        due("load()", refusedLoad.load(), -12);
        due("fault() behind a load() that was refused", refusedLoad.fault(), 5);
        LookaheadDepths refusedParse = rich("a!");
        due("told(5)", refusedParse.told(5), 3);
        due("parse()", refusedParse.parse(), -101);
        due("told(5) behind a parse() that was refused", refusedParse.told(5), 0);
        due("fault() behind it", refusedParse.fault(), 1);
        due("told(3) behind it", refusedParse.told(3), 2);
        due("told(4) behind it", refusedParse.told(4), 2);
        sentence("NONE (-9) is not an error code: it means that there is no such value, "
            + "and is returned only if no error code applies.");
        due("NONE", LookaheadDepths.NONE, -9);
        LookaheadDepths x = loaded("A=a;", "b");
        due("symbol(1, 9), no such production", x.symbol(1, 9), BAD);
        due("nonterminal(6, 7), no such nonterminal", x.nonterminal(6, 7), BAD);
        due("word(1, 3, 9), no such production", x.word(1, 3, 9), BAD);
        due("word(0, 4, 9), no such k", x.word(0, 4, 9), BAD);
        due("depth(1), not defined", x.depth(1), BAD);
        due("clash(1, 0), not defined", x.clash(1, 0), BAD);
        due("clashWord(0, 1, 3), no such production", x.clashWord(0, 1, 3), BAD);
        due("chosen(-1), nothing chosen", x.chosen(-1), BAD);
        due("step(1, 200), no derivation", x.step(1, 200), BAD);
        due("step(1, 199), no derivation", x.step(1, 199), NONE);
        due("step(1, 199), no input", loaded("A=a;").step(1, 199), -100);
        due("step(1, 199), STATE", loaded("A=A;", "b").step(1, 199), STATE);
        due("ambiguous(), STATE", loaded("A=A;").ambiguous(), STATE);
    }

    private static void refusedCalls() {
        for (int c : new int[] {LEAST, -1, 0, 32, 127, MOST}) {
            dueUnchanged("type(" + c + ")", rich("ab!"), rich("ab!"), x -> x.type(c), BAD);
        }
        String full = times("ab", 50);
        dueUnchanged("type(97)", rich(full), rich(full), x -> x.type(97), FULL);
        dueUnchanged("undo()", empty(), empty(), x -> x.undo(), STATE);
        LookaheadDepths undone = loaded("A=a|b;", "a");
        LookaheadDepths alsoUndone = loaded("A=a|b;", "a");
        undone.undo();
        alsoUndone.undo();
        dueUnchanged("undo()", undone, alsoUndone, x -> x.undo(), STATE);
        dueUnchanged("derivations()", rich("ab!"), rich("ab!"), x -> x.derivations(), -102);
        dueUnchanged("step(0, 0)", rich("ab!"), rich("ab!"), x -> x.step(0, 0), -102);
        dueUnchanged("step(2, 0)", rich("ab"), rich("ab"), x -> x.step(2, 0), BAD);
        dueUnchanged("derivations()", loaded("A=A;", "a"), loaded("A=A;", "a"), x -> x.derivations(), STATE);
        dueUnchanged("step(0, 0)", loaded("A=A;", "a"), loaded("A=A;", "a"), x -> x.step(0, 0), STATE);
        dueUnchanged("ambiguous()", loaded("A=A;", "a"), loaded("A=A;", "a"), x -> x.ambiguous(), STATE);
        dueUnchanged("production(2, 0)", rich("ab"), rich("ab"), x -> x.production(2, 0), BAD);
        dueUnchanged("symbol(0, -1)", rich("ab"), rich("ab"), x -> x.symbol(0, -1), BAD);
        dueUnchanged("nonterminal(6, 0)", rich("ab"), rich("ab"), x -> x.nonterminal(6, 0), BAD);
        dueUnchanged("first(0, 4, 0)", rich("ab"), rich("ab"), x -> x.first(0, 4, 0), BAD);
        dueUnchanged("follow(1, 0, 0)", rich("ab"), rich("ab"), x -> x.follow(1, 0, 0), BAD);
        dueUnchanged("ahead(0, 3, 6)", rich("ab"), rich("ab"), x -> x.ahead(0, 3, 6), BAD);
        dueUnchanged("words(3, 0, 0)", rich("ab"), rich("ab"), x -> x.words(3, 0, 0), BAD);
        dueUnchanged("word(0, 0, -1)", rich("ab"), rich("ab"), x -> x.word(0, 0, -1), BAD);
        dueUnchanged("marks(0, 3)", rich("ab"), rich("ab"), x -> x.marks(0, 3), BAD);
        dueUnchanged("depth(1)", rich("ab"), rich("ab"), x -> x.depth(1), BAD);
        dueUnchanged("approximate(1)", rich("ab"), rich("ab"), x -> x.approximate(1), BAD);
        dueUnchanged("clash(0, 4)", rich("ab"), rich("ab"), x -> x.clash(0, 4), BAD);
        dueUnchanged("clashWord(0, 2, 0)", rich("ab"), rich("ab"), x -> x.clashWord(0, 2, 0), BAD);
        dueUnchanged("chosen(-1)", rich("ab"), rich("ab"), x -> x.chosen(-1), BAD);
        dueUnchanged("told(6)", rich("ab"), rich("ab"), x -> x.told(6), BAD);
    }

    /** An object with remembered grammars, a fault, and a parse behind it, and with this text. */
    private static LookaheadDepths rich(String text) {
        LookaheadDepths x = loaded("A=c;");
        write(x, "A=aA|b;");
        x.load();
        write(x, "aab");
        x.parse();
        write(x, "A=A");
        x.load();
        write(x, text);
        return x;
    }

    /** Compares an object on which a call is refused with an equal one without this call. */
    private static void dueUnchanged(String call, LookaheadDepths one, LookaheadDepths other,
            ToIntFunction<LookaheadDepths> refused, int answer) {
        due(call, refused.applyAsInt(one), answer);
        due("what the object tells behind " + call, transcript(one).equals(transcript(other)) ? 1 : 0, 1);
    }

    private static List<Long> transcript(LookaheadDepths x) {
        List<Long> answers = new ArrayList<>();
        answers.add(x.digest());
        answers.add((long) x.derivations());
        answers.add((long) x.step(0, 0));
        answers.add((long) x.ambiguous());
        answers.add((long) x.type('a'));
        answers.add((long) x.derivations());
        answers.add((long) x.load());
        answers.add(x.digest());
        for (int n = 0; n < 3; n++) {
            answers.add((long) x.undo());
            answers.add(x.digest());
        }
        answers.add((long) x.parse());
        answers.add((long) x.clear());
        return answers;
    }

    private static void grammars() {
        part("GRAMMARS");
        sentence("Letters are a to e, with the numbers 0 to 4.");
        LookaheadDepths letters = loaded("A=abcde;");
        for (int i = 0; i < 5; i++) {
            due("symbol(0, " + i + ")", letters.symbol(0, i), i);
        }
        dueLoad("A=f;", -12, 1);
        dueLoad("A=`;", -12, 1);
        sentence("Nonterminals are A to F, with the numbers 0 to 5.");
        LookaheadDepths nonterminals = loaded("A=ABCDE|F;B=;C=;D=;E=;F=;");
        for (int i = 0; i < 5; i++) {
            due("symbol(0, " + i + ")", nonterminals.symbol(0, i), 10 + i);
            due("production(" + (i + 2) + ", 0)", nonterminals.production(i + 2, 0), i + 1);
        }
        due("symbol(1, 0)", nonterminals.symbol(1, 0), 15);
        dueLoad("A=G;", -12, 1);
        dueLoad("A=@;", -12, 1);
        dueLoad("G=;", -10, 1);
        dueLoad("@=;", -10, 1);
        sentence("A grammar consists of at most 16 productions, numbered from 0");
        LookaheadDepths full = typed(fullGrammar());
        due("load() of 16 productions", full.load(), 16);
        due("production(0, 0)", full.production(0, 0), 0);
        due("production(7, 0)", full.production(7, 0), 0);
        due("production(8, 0)", full.production(8, 0), 1);
        due("production(15, 0)", full.production(15, 0), 1);
        due("production(16, 0)", full.production(16, 0), BAD);
        dueLoad("A=" + times("|", 16) + ";", -28, 3);
        sentence("a right side, a sequence of 0 to 5 symbols, each of them a letter or a nonterminal");
        due("production(15, 1)", full.production(15, 1), 5);
        due("symbol(15, 4)", full.symbol(15, 4), 10);
        due("symbol(8, 4)", full.symbol(8, 4), 0);
        due("no symbols", loaded("A=;").production(0, 1), 0);
        dueLoad("A=abcdea;", -17, 4);
        sentence("The left side of production 0 is the start.");
        due("told(1)", loaded("F=A;A=;").told(1), 5);
        due("told(1)", loaded("A=F;F=;").told(1), 0);
        sentence("a nonterminal with productions is defined");
        due("nonterminal(5, 0), one production", loaded("F=;").nonterminal(5, 0), 1);
        due("nonterminal(4, 0), no production", loaded("F=;").nonterminal(4, 0), 0);
        sentence("Every nonterminal of a right side is defined.");
        dueLoad("A=A;", 1, NONE);
        dueLoad("A=F;F=;", 2, NONE);
        dueLoad("A=F;", -12, 5);
        sentence("At first there is one production, with the start A and an empty right side.");
        due("told(0)", empty().told(0), 1);
        due("told(1)", empty().told(1), 0);
        due("production(0, 1)", empty().production(0, 1), 0);
    }

    private static void derivationsOfWords() {
        part("GRAMMARS");
        sentence("A derivation of a word (a sequence of letters) begins with the start; in each step the leftmost "
            + "nonterminal is replaced by the right side of one of its productions; it ends with the word.");
        dueSteps("A=BC;B=b;C=c;", "bc", 0, 0, 1, 2);
        dueSteps("C=BA;A=c;B=b;", "bc", 0, 0, 2, 1);
        dueSteps("A=;", "", 0, 0);
        dueCount("A=;", "", 1);
        dueCount("A=A;", "", STATE);
        sentence("Derivations are compared by the numbers of their productions, one by one, from the first one.");
        dueSteps("A=B|C;C=a|Da;D=;B=a;", "a", 0, 0, 5);
        dueSteps("A=B|C;C=a|Da;D=;B=a;", "a", 1, 1, 2);
        dueSteps("A=BB;B=a||aa;", "a", 0, 0, 1, 2);
        dueSteps("A=BB;B=a||aa;", "a", 1, 0, 2, 1);
        dueSteps("A=a|aa|aaa;", "aa", 0, 1);
        dueSteps("A=a|aa|aaa;", "aa", 1);
        dueSteps("A=aB|a;B=|;", "a", 0, 0, 2);
        dueSteps("A=aB|a;B=|;", "a", 1, 0, 3);
        sentence("The words of the grammar are those that are derived from the start.");
        dueCount("A=a;B=b;", "a", 1);
        dueCount("A=a;B=b;", "b", 0);
        dueAmbiguous("A=a;B=b|b;", NONE);
    }

    private static void kindsOfNonterminals() {
        part("GRAMMARS");
        sentence("A nonterminal is empty if the empty word can be derived from it; productive if some word can");
        dueProperty("A=B|c;B=CC;C=D|c;D=;E=cE;F=CE;", 1, 1, 1, 1, 1, 0, 0);
        dueProperty("A=B|c;B=CC;C=D|c;D=;E=cE;F=CE;", 2, 1, 1, 1, 1, 0, 0);
        dueProperty("A=B;B=C;C=D;D=E;E=F;F=;", 1, 1, 1, 1, 1, 1, 1);
        dueProperty("A=B;B=C;C=D;D=E;E=F;F=a;", 1, 0, 0, 0, 0, 0, 0);
        dueProperty("A=B;B=C;C=D;D=E;E=F;F=e;", 2, 1, 1, 1, 1, 1, 1);
        dueProperty("A=B;B=C;C=D;D=E;E=F;F=eF;", 2, 0, 0, 0, 0, 0, 0);
        sentence("reachable if it is the start, or stands in a right side of a reachable one's productions");
        dueProperty("F=aE;E=bDD;D=|C;C=B;B=A;A=;", 3, 1, 1, 1, 1, 1, 1);
        dueProperty("A=a;B=A;C=B;D=D;", 3, 1, 0, 0, 0, 0, 0);
        dueProperty("A=BC;B=B;C=D;D=;E=A;", 3, 1, 1, 1, 1, 0, 0);
        sentence("It is recursive if, by one or several steps, each of which replaces the leftmost nonterminal or "
            + "another one, a sequence can be derived from it that begins with it (left recursion, also behind "
            + "nonterminals that are derived to the empty word).");
        dueProperty("A=a;B=aB;C=bA;", 4, 0, 0, 0);
        dueProperty("A=Aa;B=AB;C=DC;D=|a;E=bF;F=Ec;", 4, 1, 0, 1, 0, 0, 0);
        dueProperty("A=B;B=C;C=D;D=E;E=F;F=Aa;", 4, 1, 1, 1, 1, 1, 1);
        dueProperty("A=BBBBA;B=;C=AC;D=DD;", 4, 1, 0, 0, 1);
        dueProperty("A=AB;B=B;C=BC;", 4, 1, 1, 0);
        sentence("It is cyclic if a sequence can be derived from it, by one or several such steps, that is the "
            + "nonterminal itself and nothing else.");
        dueProperty("A=a;B=Ba|;C=Ca;", 5, 0, 0, 0);
        dueProperty("A=A;B=CBD;C=;D=;E=CEF;F=a;", 5, 1, 1, 0, 0, 0, 0);
        dueProperty("A=B;B=C;C=D;D=E;E=F;F=A;", 5, 1, 1, 1, 1, 1, 1);
        dueProperty("A=B;B=A;C=A;D=EDF;E=;F=F;", 5, 1, 1, 0, 0, 0, 1);
        dueProperty("A=AA|;B=BB|b;", 5, 1, 0);
    }

    private static void wordsAhead() {
        part("WORDS AHEAD");
        sentence("For k from 0 to 3, the beginning by k of a word is the word itself, if it has at most k letters, "
            + "and otherwise its first k letters.");
        String[] cut = {"", "a", "ab", "abc"};
        for (int k = 0; k <= 3; k++) {
            dueWordsAhead("A=abcde;", 0, k, cut[k]);
            for (int n = 0; n <= 3; n++) {
                dueWordsAhead("A=" + cut[n] + ";", 0, k, cut[Math.min(k, n)]);
            }
        }
        sentence("The first words by k of a sequence of symbols are the beginnings by k of the words that are "
            + "derived from it.");
        LookaheadDepths first = loaded("A=BBB;B=a|;C=AC;");
        due("first(0, 3, aaa)", first.first(0, 3, w("aaa")), 1);
        due("first(0, 3, empty)", first.first(0, 3, 0), 1);
        due("words(0, 0, 3)", first.words(0, 0, 3), 4);
        due("words(0, 0, 2)", first.words(0, 0, 2), 3);
        due("words(0, 2, 0), no word", first.words(0, 2, 0), 0);
        sentence("The following words by k of a nonterminal X are the beginnings by k of all words y such that from "
            + "the start a sequence can be derived that consists of any symbols, then X, then a sequence from which "
            + "y is derived (any nonterminal may be replaced in a step here; the sequence behind X can be empty).");
        LookaheadDepths follow = loaded("A=BCDe;B=b|;C=c|CB;D=;E=Ab;F=F;");
        due("follow(0, 3, empty), the start itself", follow.follow(0, 3, 0), 1);
        due("words(1, 0, 3), not reached from E", follow.words(1, 0, 3), 1);
        due("follow(3, 3, e)", follow.follow(3, 3, w("e")), 1);
        due("follow(2, 3, be)", follow.follow(2, 3, w("be")), 1);
        due("follow(2, 3, bbb)", follow.follow(2, 3, w("bbb")), 1);
        due("follow(1, 3, bce)", follow.follow(1, 3, w("bce")), 0);
        due("follow(1, 3, ce)", follow.follow(1, 3, w("ce")), 1);
        due("follow(1, 3, e), behind the last B", follow.follow(1, 3, w("e")), 1);
        due("words(1, 4, 0), not reachable", follow.words(1, 4, 0), 0);
        due("words(1, 1, 3), before no word", loaded("A=BC;B=;C=C;").words(1, 1, 3), 0);
        due("words(1, 2, 3), behind no word", loaded("A=BC;B=B;C=;").words(1, 2, 3), 1);
        due("follow(1, 1, empty), at the end", loaded("A=aB;B=;").follow(1, 1, 0), 1);
        sentence("The words ahead by k of a production with the left side X are the beginnings by k of all words that "
            + "consist of a word derived from its right side, followed by a following word by k of X.");
        dueWordsAhead("A=Bcde;B=a|;", 1, 3, "acd");
        dueWordsAhead("A=Bcde;B=a|;", 2, 3, "cde");
        dueWordsAhead("A=Bcde;B=a|;", 2, 1, "c");
        dueWordsAhead("A=aBcd;B=b|;", 0, 3, "abc", "acd");
        dueWordsAhead("A=aBcd;B=b|;", 0, 2, "ab", "ac");
        dueWordsAhead("A=a;B=b;", 1, 0);
        dueWordsAhead("A=aB;B=B;", 0, 0);
        sentence("(A word ahead with fewer than k letters stands for the end of the input behind it.)");
        dueWordsAhead("A=a|ab;", 0, 2, "a");
        dueParse("A=a|ab;", "a", 1, 0);
        dueParse("A=a|ab;", "aa", -10);
        dueParse("A=a|ab;", "ab", 1, 1);
        sentence("of the word with the letters x1, x2 and so on the number is found by reading x1 + 1, x2 + 1 and so on "
            + "as digits to the base 6; so the empty word has the number 0, a has 1, and ab has 8.");
        due("the empty word", loaded("A=;").word(0, 3, 0), 0);
        due("a", loaded("A=a;").word(0, 3, 0), 1);
        due("e", loaded("A=e;").word(0, 3, 0), 5);
        due("aa", loaded("A=aa;").word(0, 3, 0), 7);
        due("ab", loaded("A=ab;").word(0, 3, 0), 8);
        due("aaa", loaded("A=aaa;").word(0, 3, 0), 43);
        due("eee", loaded("A=eee;").word(0, 3, 0), 215);
        sentence("They are ordered by their numbers of letters, and those with equally many by their numbers.");
        dueWordsAhead("A=B;B=|e|a|aa|ae|ba|ee|aaa|aab|eee;", 0, 3,
            "", "a", "e", "aa", "ae", "ba", "ee", "aaa", "aab", "eee");
    }

    private static void depthsAndMarks() {
        part("WORDS AHEAD");
        sentence("Two productions of a nonterminal clash by k if some word is a word ahead by k of both.");
        LookaheadDepths x = loaded("A=abc|abd|e;B=a|a;");
        due("clash(0, 0)", x.clash(0, 0), 1);
        due("clash(0, 2)", x.clash(0, 2), 1);
        due("clash(0, 3)", x.clash(0, 3), NONE);
        due("clash(1, 0), without words ahead", x.clash(1, 0), NONE);
        due("clash(0, 0), the second without words ahead", loaded("A=a|aB;B=bB;").clash(0, 0), NONE);
        due("clash(0, 0), the first without words ahead", loaded("A=aB|a;B=bB;").clash(0, 0), NONE);
        sentence("The depth of a nonterminal is the smallest k from 0 to 3 by which no two of its productions clash; "
            + "if there is none, it has no depth.");
        dueDepths("A=;", 0, 0);
        dueDepths("A=|a;", 1, 1);
        dueDepths("A=a|aa;", 2, 2);
        dueDepths("A=aa|aaa;", 3, 3);
        dueDepths("A=aaa|aaaa;", NONE, NONE);
        due("depth(1), without words ahead", loaded("A=;B=a|a;").depth(1), 0);
        sentence("The marks of a production at place i (0 to 2) are the letters that are letter i of some of its words "
            + "ahead by i + 1, and the end, if some of its words ahead by i + 1 has at most i letters.");
        String[] words = {"", "b", "bc", "bcd", "bcde"};
        int[][] marks = {{32, 32, 32}, {2, 32, 32}, {2, 4, 32}, {2, 4, 8}, {2, 4, 8}};
        for (int n = 0; n < words.length; n++) {
            for (int i = 0; i <= 2; i++) {
                due("marks(0, " + i + ") of " + words[n], loaded("A=" + words[n] + ";").marks(0, i), marks[n][i]);
            }
        }
        due("marks(1, 0), no words ahead", loaded("A=;B=;").marks(1, 0), 0);
        due("marks(0, 2) of all", loaded("A=BBB;B=a|b|c|d|e|;").marks(0, 2), 63);
        sentence("Two productions are parted by marks at place i if they have no mark in common there.");
        dueDepths("A=aab|bac;", 1, 1);
        dueDepths("A=aB|ac;B=b|d;", 2, 2);
        dueDepths("A=aB|ac;B=b|c;", NONE, NONE);
        sentence("The approximate depth of a nonterminal is the smallest k from 0 to 3 such that each two of its "
            + "productions are parted by marks at some place smaller than k (so at least 1, if there are two "
            + "productions); it can be missing, too.");
        due("approximate(0), one production", loaded("A=a;").approximate(0), 0);
        due("approximate(1), two without words ahead", loaded("A=a;B=c|c;").approximate(1), 1);
        due("depth(1), two without words ahead", loaded("A=a;B=c|c;").depth(1), 0);
        due("approximate(0), the end at place 2", loaded("A=aa|aab;").approximate(0), 3);
        due("approximate(0), parted at different places", loaded("A=aab|aac|ab|b;").approximate(0), 3);
        dueDepths("A=B|C;B=ab|ba;C=aa|bb;", 2, NONE);
        dueDepths("A=Bc|Cd;B=ab|ba;C=aa|bb;", 2, 3);
    }

    private static void parsing() {
        part("PARSING");
        sentence("PARSING looks at an input, a word, with a stack of symbols, on which there is the start at first.");
        dueParse("A=;", "", 1, 0);
        dueParse("B=A;A=;", "", 2, 0, 1);
        sentence("As long as the stack is not empty, its top is removed");
        dueParse("A=Bb;B=a;", "ab", 2, 0, 1);
        dueParse("A=BBBBB;B=;", "", 6, 0, 1, 1, 1, 1, 1);
        sentence("if it is a letter, it has to be the next letter of the input, which is gone over then");
        dueParse("A=abcdB;B=eabc;", "abcdeabc", 2, 0, 1);
        dueParse("A=ab;", "ac", -11, 0);
        dueParse("A=ab;", "a", -11, 0);
        sentence("otherwise the production of this nonterminal is chosen whose words ahead, by the depth of the "
            + "nonterminal, contain the beginning by this depth of the rest of the input, and its right side comes to "
            + "the stack, its first symbol at the top");
        dueParse("A=BCD;B=b;C=c;D=d;", "bcd", 4, 0, 1, 2, 3);
        dueParse("A=aab|aac;", "aac", 1, 1);
        dueParse("A=aab|aac;", "aa", -10);
        dueParse("A=a|;", "b", -10);
        dueParse("A=a;", "b", -10, 0);
        dueParse("A=aB;B=B|bB;", "a", STATE);
        dueParse("A=aB|b;B=bB;", "a", -10, 1);
        dueParse("A=bB;B=bB;", "b", -10);
        sentence("It fails at the number of letters that have been gone over, if the letter is not the next one, no "
            + "production can be chosen, a 61st production would be chosen, or the stack is empty, but not all "
            + "letters have been gone over.");
        dueParse("A=aa;", "ab", -11, 0);
        dueParse("A=aaaaB;B=aaaab;", "aaaaaaaa", -18, 0, 1);
        dueParse("A=aB;B=a|b;", "ac", -11, 0);
        dueParse("A=a;", "aa", -11, 0);
        dueParse("A=;", "a", -10, 0);
        dueParse("A=;", "aaaaaaaa", -10, 0);
        due("60 productions", loaded(SIXTY, "").parse(), 60);
        due("61 productions", loaded(SIXTY_ONE, "").parse(), -10);
        String eight = ";B=aaaaC;C=DDDD;D=EEEEE;E=;F=;";
        due("60 productions and 8 letters", loaded("A=BBDF" + eight, "aaaaaaaa").parse(), 60);
        due("60 productions and 8 letters, one is missing", loaded("A=BBDFb" + eight, "aaaaaaaa").parse(), -18);
        due("61 productions and 8 letters", loaded("A=BBDFF" + eight, "aaaaaaaa").parse(), -18);
        due("60 productions, a letter is left", loaded(SIXTY, "a").parse(), -10);
        int[] high = new int[60];
        for (int i = 0; i < 60; i++) {
            int[] round = {0, 2, 3, 4, 5};
            high[i] = i < 40 ? round[i % 5] : i == 40 ? 1 : 6;
        }
        dueParse("A=aBFFF|;B=CFFFF;C=DFFFF;D=EFFFF;E=AFFFF;F=;", "aaaaaaaa", -18, high);
        LookaheadDepths letters = parsed("A=abBFE;B=CCCCC;C=DDDDD;D=;E=cBCDD;F=;", "abc");
        due("a 61st production behind three letters", letters.parse(), -13);
        due("told(5) of it", letters.told(5), 60);
    }

    /** A is 1, B 16, C 6, F 5 and D 1: 1 + 3 * 16 + 6 + 5 = 60 productions for the empty word. */
    private static final String SIXTY = "A=BBBCF;B=EEEEE;E=DD;D=;C=DDDDD;F=DDDD;";
    private static final String SIXTY_ONE = "A=BBBCF;B=EEEEE;E=DD;D=;C=DDDDD;F=DDDDD;";

    /** 16 productions in 100 bytes, but without the last ;. */
    private static final String ENDS_AT_100 =
        "C=aaaa;A=aaaaa" + "|aaaaa".repeat(6) + ";B=aaaaa" + "|aaaaa".repeat(7);

    private static void faultsOfTexts() {
        part("TEXTS");
        sentence("The text buffer has at most 100 bytes.");
        LookaheadDepths buffer = typed(times("a", 99));
        due("type(97) at 99", buffer.type(97), 100);
        due("type(97) at 100", buffer.type(97), FULL);
        due("told(3)", buffer.told(3), 100);
        due("a grammar of 100 bytes", fullGrammar().length(), 100);
        dueLoad(fullGrammar(), 16, NONE);
        sentence("A grammar is written as rules, without blanks: rule = nonterminal \"=\" alternative { \"|\" alternative "
            + "} \";\" where an alternative is a sequence of 0 to 5 symbols; each alternative is a production.");
        dueLoad("A=;", 1, NONE);
        dueLoad("A=|;", 2, NONE);
        dueLoad("A=|a|;", 3, NONE);
        dueLoad("A=abcde;", 1, NONE);
        dueLoad("A=AAAAA|abcde;", 2, NONE);
        dueLoad("F=;E=;D=;C=;B=;A=;", 6, NONE);
        due("type(32), a blank", empty().type(32), BAD);
        sentence("1 a byte that cannot stand there");
        dueLoad("a", -10, 1);
        dueLoad("=", -10, 1);
        dueLoad(";", -10, 1);
        dueLoad("|", -10, 1);
        dueLoad("AA=;", -11, 1);
        dueLoad("A;", -11, 1);
        dueLoad("Aa", -11, 1);
        dueLoad("A|", -11, 1);
        dueLoad("A==;", -12, 1);
        dueLoad("A=a=;", -13, 1);
        dueLoad("A=1;", -12, 1);
        dueLoad("A=;;", -13, 1);
        dueLoad("A=;|;", -13, 1);
        dueLoad("A=;a", -13, 1);
        dueLoad("A=;G=;", -13, 1);
        dueLoad("A=!", -12, 1);
        dueLoad("A=~", -12, 1);
        dueLoad("A=abcde!", -17, 1);
        dueLoad("A=abcdef", -17, 1);
        dueLoad("A=abcdeG", -17, 1);
        dueLoad("A=" + times("a|", 15) + "!", -42, 1);
        dueLoad(fullGrammar().substring(0, 99) + "!", -109, 1);
        sentence("or the text ends too early, or has no rule (its length is the position)");
        dueLoad("", -10, 1);
        dueLoad("A", -11, 1);
        dueLoad("A=", -12, 1);
        dueLoad("A=a", -13, 1);
        dueLoad("A=|", -13, 1);
        dueLoad("A=abcde", -17, 1);
        dueLoad("A=;B", -14, 1);
        dueLoad("A=;B=", -15, 1);
        dueLoad("A=" + times("|", 15), -27, 1);
        dueLoad("A=aaaaa" + times("|aaaaa", 14) + ";B=", -104, 1);
        dueLoad(fullGrammar().substring(0, 99), -109, 1);
        dueLoad(ENDS_AT_100, -110, 1);
    }

    private static void faultsInOrder() {
        part("TEXTS");
        sentence("2 a nonterminal that has a rule already, where a rule begins (its letter, whatever stands behind it)");
        dueLoad("A=;A=;", -13, 2);
        dueLoad("A=;A", -13, 2);
        dueLoad("A=;A!", -13, 2);
        dueLoad("A=;AA", -13, 2);
        dueLoad("A=A;B=;A", -17, 2);
        dueLoad("A=;B=;C=;D=;E=;F=;F", -28, 2);
        dueLoad("A=;B=;C=;D=;E=;F=;A=;", -28, 2);
        dueLoad("A=" + times("|", 15) + ";A=;", -28, 2);
        sentence("3 a 17th production (at the byte behind its = or |, whatever it is, or at the length of the text, if it "
            + "ends there)");
        dueLoad("A=" + times("|", 16) + ";", -28, 3);
        dueLoad("A=" + times("|", 16) + "|", -28, 3);
        dueLoad("A=" + times("|", 16) + "a", -28, 3);
        dueLoad("A=" + times("|", 16) + "A", -28, 3);
        dueLoad("A=" + times("|", 16) + "!", -28, 3);
        dueLoad("A=" + times("|", 16), -28, 3);
        dueLoad("A=" + times("|", 15) + ";B=;", -30, 3);
        dueLoad("A=" + times("|", 15) + ";B=!", -30, 3);
        dueLoad("A=" + times("|", 15) + ";B=", -30, 3);
        dueLoad("A=" + times("|", 15) + ";B", -29, 1);
        dueLoad("A=" + times("|", 15) + ";B!", -29, 1);
        dueLoad("A=" + times("|", 15) + ";", 16, NONE);
        dueLoad("A=" + times("|", 14) + ";B=;", 16, NONE);
        dueLoad("A=;B=;C=;D=;E=;F=" + times("|", 10) + ";", 16, NONE);
        dueLoad("A=;B=;C=;D=;E=;F=" + times("|", 11) + ";", -38, 3);
        dueLoad("A=aaaaa" + times("|aaaaa", 14) + "|aaaaa|;", -108, 3);
        dueLoad("A=aaaaa" + times("|aaaaa", 14) + "|aaaa|", -107, 3);
        dueLoad("A=aaaaa" + times("|aaaaa", 15) + "|a;", -108, 3);
        dueLoad("A=aaaaa" + times("|aaaaa", 15) + ";B=", -110, 3);
        dueLoad(fullGrammar().substring(0, 99) + "|", -110, 3);
        sentence("4 a sixth symbol (this one)");
        dueLoad("A=abcdea;", -17, 4);
        dueLoad("A=abcdeA;", -17, 4);
        dueLoad("A=AAAAAF", -17, 4);
        dueLoad("A=abcdeaaa;", -17, 4);
        dueLoad("A=abcde|abcdee;", -23, 4);
        dueLoad("A=a;B=abcdee;", -21, 4);
        dueLoad("A=" + times("|", 15) + "abcdee;", -32, 4);
        sentence("5 (only if there is no other fault) a nonterminal without a rule is in a right side: the position of "
            + "the first such one in the text.");
        dueLoad("A=B;", -12, 5);
        dueLoad("A=aaaaF;", -16, 5);
        dueLoad("F=ABCDE;", -12, 5);
        for (char c = 'A'; c <= 'E'; c++) {
            dueLoad("F=eF|" + c + ";", -15, 5);
        }
        dueLoad("A=ABFEB;B=C;", -14, 5);
        dueLoad("A=;B=F;C=E;", -15, 5);
        dueLoad("A=DC;C=;D=;E=EB;", -24, 5);
        dueLoad("A=B;B=;", 2, NONE);
        dueLoad("A=F;B", -15, 1);
        dueLoad("A=F;!", -14, 1);
        dueLoad("A=F;A=;", -14, 2);
        dueLoad("A=F" + times("|", 16) + ";", -29, 3);
        dueLoad("A=FFFFFF;", -17, 4);
        sentence("it is read from left to right");
        dueLoad("A=!;A=;", -12, 1);
        dueLoad("A=;A=!;", -13, 2);
        dueLoad("A=abcdee!", -17, 4);
        dueLoad("A=abcde!e", -17, 1);
        dueLoad("A=abcdee;A=;", -17, 4);
        dueLoad("A=;A=abcdee;", -13, 2);
        dueLoad("A=" + times("|", 16) + "abcdee;A", -28, 3);
    }

    private static void faultsOfInputs() {
        part("TEXTS");
        sentence("An input is written as letters; its fault is the index of the first byte that is no letter, or of a "
            + "ninth letter, whichever comes first.");
        dueCount("A=aA|;", "", 1);
        dueCount("A=aA|;", "aaaaaaaa", 1);
        dueCount("A=aA|;", "aaaaaaaaa", -108);
        dueCount("A=aA|;", "aaaaaaaa!", -108);
        dueCount("A=aA|;", "aaaaaaaaa!", -108);
        dueCount("A=aA|;", "aaaaaaa!a", -107);
        dueCount("A=aA|;", "!aaaaaaaa", -100);
        dueCount("A=aA|;", "aA!", -101);
        dueCount("A=aA|;", "f", -100);
        dueCount("A=aA|;", "`", -100);
        dueCount("A=aA|;", "e", 0);
        dueCount("A=aA|;", times("a", 100), -108);
        dueParse("A=aA|;", "aaaaaaaa", 9, 0, 0, 0, 0, 0, 0, 0, 0, 1);
        dueParse("A=aA|;", "aaaaaaaaa", -108);
        dueParse("A=aA|;", "aaf", -102);
        dueParse("A=aA|;", "!", -100);
    }

    private static void historyLimits() {
        part("HISTORY");
        sentence("Each successful call of load() records the grammar before it.");
        LookaheadDepths x = typed("A=");
        x.load();
        due("told(4) behind a fault", x.told(4), 0);
        x.type(';');
        x.load();
        due("told(4) behind load()", x.told(4), 1);
        x.load();
        due("told(4) behind load() of the same", x.told(4), 2);
        sentence("At most 4 recorded grammars are remembered: when one more is recorded, the oldest one is dropped");
        for (int loads = 3; loads <= 6; loads++) {
            LookaheadDepths y = empty();
            for (int n = 2; n <= loads + 1; n++) {
                write(y, "A=" + times("|", n - 1) + ";");
                y.load();
            }
            int remembered = Math.min(4, loads);
            due("told(4) behind " + loads, y.told(4), remembered);
            for (int n = 1; n <= remembered; n++) {
                due("undo() " + n + " behind " + loads, y.undo(), remembered - n);
                due("told(0) behind undo() " + n + " of " + loads, y.told(0), loads + 1 - n);
            }
            due("undo() at the end", y.undo(), STATE);
        }
        LookaheadDepths refused = empty();
        for (int n = 2; n <= 8; n++) {
            write(refused, "A=" + times("|", n - 1) + ";");
            refused.load();
            write(refused, "B=b|b|b|b|b|b|b|b|b!");
            due("load() of a text with a fault", refused.load(), -29);
        }
        for (int n = 7; n >= 4; n--) {
            due("undo() behind refused calls", refused.undo(), n - 4);
            due("told(0) behind it", refused.told(0), n);
            due("told(1) behind it", refused.told(1), 0);
        }
        sentence("undo() restores the latest one and removes it");
        LookaheadDepths again = loaded("A=a;");
        again.undo();
        write(again, "A=b;");
        again.load();
        write(again, "C=c|c!");
        again.load();
        due("symbol(0, 0) behind a refused load()", again.symbol(0, 0), 1);
        due("undo()", again.undo(), 0);
        due("production(0, 0), the first grammar", again.production(0, 0), 0);
        due("production(0, 1), the first grammar", again.production(0, 1), 0);
        due("told(0), the first grammar", again.told(0), 1);
        LookaheadDepths z = loaded("A=a;");
        write(z, "B=b|;");
        z.load();
        due("undo()", z.undo(), 1);
        due("told(1)", z.told(1), 0);
        due("symbol(0, 0)", z.symbol(0, 0), 0);
        write(z, "C=c|;");
        z.load();
        due("undo()", z.undo(), 1);
        due("symbol(0, 0)", z.symbol(0, 0), 0);
        due("undo()", z.undo(), 0);
        due("production(0, 1)", z.production(0, 1), 0);
    }

    // ---- the promises

    private static void promises() {
        newObject();
        type();
        clear();
        load();
        fault();
        production();
        symbol();
        nonterminal();
        first();
        follow();
        ahead();
        words();
        word();
        marks();
        depth();
        approximate();
        deepest();
        clash();
        clashWord();
        parse();
        chosen();
        derivations();
        step();
        ambiguous();
        told();
        undo();
        digest();
    }

    private static void newObject() {
        promise(1);
        sentence("Creates an object with the first grammar and an empty text buffer; nothing has been parsed.");
        LookaheadDepths x = empty();
        int[] told = {1, 0, 1, 0, 0, 0};
        for (int what = 0; what <= 5; what++) {
            due("told(" + what + ")", x.told(what), told[what]);
        }
        due("chosen(0)", x.chosen(0), NONE);
        due("fault()", x.fault(), NONE);
        due("undo()", x.undo(), STATE);
        due("clear()", x.clear(), 0);
        due("symbol(0, 0)", x.symbol(0, 0), NONE);
        due("depth(0)", x.depth(0), 0);
        due("depth(1)", x.depth(1), BAD);
        due("load() of the empty text", x.load(), -10);
        due("derivations() of the empty text", empty().derivations(), 1);
        due("step(0, 0) of the empty text", empty().step(0, 0), 0);
        due("ambiguous()", empty().ambiguous(), NONE);
        due("parse() of the empty text", empty().parse(), 1);
    }

    private static void type() {
        promise(2);
        sentence("Appends a byte to the text buffer.");
        LookaheadDepths x = loaded("A=ab;", "a");
        due("derivations() of a", x.derivations(), 0);
        x.type('b');
        due("derivations() of ab", x.derivations(), 1);
        sentence("- c: the byte, 33 to 126");
        due("type(32)", empty().type(32), BAD);
        due("type(33)", empty().type(33), 1);
        due("type(126)", empty().type(126), 1);
        due("type(127)", empty().type(127), BAD);
        sentence("Returns how many bytes it has then");
        LookaheadDepths counted = empty();
        for (int n = 1; n <= 100; n++) {
            due("type(33) " + n, counted.type(33), n);
        }
        sentence("BAD if c is out of range");
        for (int c : new int[] {LEAST, -33, -1, 0, 32, 127, 128, 256 + 97, 65536 + 97, MOST}) {
            due("type(" + c + ")", empty().type(c), BAD);
        }
        sentence("FULL if it has 100.");
        due("type(97) at 98", typed(times("a", 98)).type(97), 99);
        due("type(97) at 99", typed(times("a", 99)).type(97), 100);
        LookaheadDepths full = typed(times("a", 100));
        due("type(97) at 100", full.type(97), FULL);
        due("type(97) again", full.type(97), FULL);
        due("clear()", full.clear(), 100);
        due("type(97) behind clear()", full.type(97), 1);
    }

    private static void clear() {
        promise(3);
        sentence("Empties the text buffer.");
        LookaheadDepths x = loaded("A=a|;", "a");
        due("step(0, 0) of a", x.step(0, 0), 0);
        x.clear();
        due("step(0, 0) of the empty word", x.step(0, 0), 1);
        due("told(3)", x.told(3), 0);
        due("told(0), the grammar stays", x.told(0), 2);
        LookaheadDepths shorter = parsed("A=ab;", "ab");
        due("told(5) of ab", shorter.told(5), 1);
        write(shorter, "a");
        due("parse() of a behind ab", shorter.parse(), -11);
        due("derivations() of a behind ab", shorter.derivations(), 0);
        write(shorter, "A=ab");
        due("load() of a text that ends before an old ;", shorter.load(), -14);
        sentence("Returns how many bytes it had.");
        due("clear() of nothing", empty().clear(), 0);
        due("clear() of one", typed("!").clear(), 1);
        LookaheadDepths full = typed(times("a", 100));
        due("clear() of 100", full.clear(), 100);
        due("clear() again", full.clear(), 0);
    }

    private static void load() {
        promise(4);
        sentence("Reads the text buffer, which stays, as a grammar, in place of the present one.");
        LookaheadDepths x = loaded("A=b;B=;");
        due("told(3)", x.told(3), 7);
        due("load() again", x.load(), 2);
        write(x, "C=c;");
        x.load();
        due("told(2), nothing of the grammar before", x.told(2), 4);
        due("production(1, 0)", x.production(1, 0), BAD);
        due("nonterminal(1, 6)", x.nonterminal(1, 6), 0);
        due("depth(0)", x.depth(0), BAD);
        leftovers();
        sentence("Returns the number of productions");
        dueLoad("A=;", 1, NONE);
        dueLoad("A=" + times("|", 15) + ";", 16, NONE);
        sentence("-10 minus the position of the fault if there is one");
        dueLoad("", -10, 1);
        dueLoad("A=;B=B|C;", -17, 5);
        LookaheadDepths full = typed(fullGrammar().substring(0, 99) + "a");
        due("load() with a sixth symbol at 99", full.load(), -109);
        due("fault() of it", full.fault(), 4);
        due("load() of 100 bytes that end too early", typed(ENDS_AT_100).load(), -110);
        sentence("(then nothing changes but what fault() tells)");
        LookaheadDepths rich = rich("A=A|!");
        LookaheadDepths other = rich("A=A|!");
        long before = rich.digest();
        due("load()", rich.load(), -14);
        due("digest(), the fault is 1 before and behind", rich.digest(), before);
        due("all that it tells", transcript(rich).equals(transcript(other)) ? 1 : 0, 1);
        LookaheadDepths cached = loaded("A=B|a;B=|;", "");
        due("derivations()", cached.derivations(), 2);
        due("ambiguous()", cached.ambiguous(), 0);
        due("load() of the empty text", cached.load(), -10);
        due("derivations() behind it", cached.derivations(), 2);
        due("ambiguous() behind it", cached.ambiguous(), 0);
        due("step(1, 1) behind it", cached.step(1, 1), 3);
        due("nonterminal(1, 6) behind it", cached.nonterminal(1, 6), 2);
        due("told(4) behind it", cached.told(4), 1);
        due("undo() behind it", cached.undo(), 0);
        due("fault() behind it", cached.fault(), 1);
    }

    /** Nothing of an earlier grammar or of a text that was refused may be left in the present one. */
    private static void leftovers() {
        LookaheadDepths x = loaded("A=AB|;B=b|;");
        due("nonterminal(0, 5)", x.nonterminal(0, 5), 1);
        write(x, "A=a;");
        x.load();
        due("nonterminal(0, 1) behind an empty one", x.nonterminal(0, 1), 0);
        due("nonterminal(0, 4) behind a recursive one", x.nonterminal(0, 4), 0);
        due("nonterminal(0, 5) behind a cyclic one", x.nonterminal(0, 5), 0);
        due("nonterminal(1, 3) behind a reachable one", x.nonterminal(1, 3), 0);
        due("words(0, 0, 3) behind more", x.words(0, 0, 3), 1);
        due("words(1, 0, 3) behind more", x.words(1, 0, 3), 1);
        due("words(2, 0, 3) behind more", x.words(2, 0, 3), 1);
        LookaheadDepths y = typed("A=;B=||");
        due("load() of a text that ends too early", y.load(), -17);
        write(y, "A=;");
        y.load();
        due("nonterminal(1, 0) behind it", y.nonterminal(1, 0), 0);
        due("nonterminal(1, 6) behind it", y.nonterminal(1, 6), 0);
        LookaheadDepths z = typed("A=aA!");
        due("load() of a text with a wrong byte", z.load(), -14);
        write(z, "A=B;B=;");
        z.load();
        due("nonterminal(0, 4) behind it", z.nonterminal(0, 4), 0);
        due("symbol(0, 1) behind it", z.symbol(0, 1), NONE);
    }

    private static void fault() {
        promise(5);
        sentence("Returns the kind of the fault that the latest call of load() found.");
        LookaheadDepths x = typed("A=B;");
        x.load();
        due("fault()", x.fault(), 5);
        write(x, "A=;A");
        due("fault() before the next load()", x.fault(), 5);
        x.load();
        due("fault() behind it", x.fault(), 2);
        sentence("Returns 1 to 5");
        dueLoad("!", -10, 1);
        dueLoad("A=;A", -13, 2);
        dueLoad("A=" + times("|", 16), -28, 3);
        dueLoad("A=aaaaaa", -17, 4);
        dueLoad("A=F;", -12, 5);
        sentence("NONE if it found none, or there was no such call.");
        due("fault() without load()", empty().fault(), NONE);
        write(x, "A=;");
        x.load();
        due("fault() behind a good load()", x.fault(), NONE);
        x.clear();
        x.load();
        due("fault() behind a bad one", x.fault(), 1);
    }

    private static void production() {
        promise(6);
        sentence("0 for its left side, 1 for the number of symbols of its right side");
        LookaheadDepths x = loaded("F=|abcde;A=;");
        due("production(0, 0)", x.production(0, 0), 5);
        due("production(2, 0)", x.production(2, 0), 0);
        due("production(0, 1)", x.production(0, 1), 0);
        due("production(1, 1)", x.production(1, 1), 5);
        sentence("BAD if there is no such production or what is not 0 or 1.");
        for (int p : new int[] {LEAST, -1, 3, 15, 16, MOST}) {
            due("production(" + p + ", 0)", x.production(p, 0), BAD);
            due("production(" + p + ", 1)", x.production(p, 1), BAD);
        }
        for (int what : new int[] {LEAST, -1, 2, MOST}) {
            due("production(0, " + what + ")", x.production(0, what), BAD);
        }
        LookaheadDepths full = loaded(fullGrammar());
        due("production(15, 1)", full.production(15, 1), 5);
        due("production(16, 1)", full.production(16, 1), BAD);
    }

    private static void symbol() {
        promise(7);
        sentence("Returns the number of a letter, or 10 plus the number of a nonterminal");
        LookaheadDepths x = loaded("A=aeAFE|;E=;F=;");
        int[] symbols = {0, 4, 10, 15, 14};
        for (int i = 0; i < symbols.length; i++) {
            due("symbol(0, " + i + ")", x.symbol(0, i), symbols[i]);
        }
        sentence("- i: the index of the symbol, from 0");
        due("symbol(0, 0)", x.symbol(0, 0), 0);
        due("symbol(0, -1)", x.symbol(0, -1), BAD);
        sentence("NONE if it has not so many symbols");
        due("symbol(0, 5)", x.symbol(0, 5), NONE);
        due("symbol(0, MOST)", x.symbol(0, MOST), NONE);
        due("symbol(1, 0)", x.symbol(1, 0), NONE);
        due("symbol(3, 4)", x.symbol(3, 4), NONE);
        due("symbol(0, 1) of one symbol", loaded("A=a|b;").symbol(0, 1), NONE);
        sentence("BAD if there is no such production or i is negative.");
        for (int p : new int[] {LEAST, -1, 4, 16, MOST}) {
            due("symbol(" + p + ", 0)", x.symbol(p, 0), BAD);
            due("symbol(" + p + ", 5)", x.symbol(p, 5), BAD);
        }
        for (int i : new int[] {LEAST, -1}) {
            due("symbol(0, " + i + ")", x.symbol(0, i), BAD);
            due("symbol(1, " + i + ")", x.symbol(1, i), BAD);
        }
    }

    private static void nonterminal() {
        promise(8);
        sentence("- x: the nonterminal, 0 to 5");
        due("nonterminal(-1, 0)", loaded("A=;F=;").nonterminal(-1, 0), BAD);
        due("nonterminal(0, 0)", loaded("A=;F=;").nonterminal(0, 0), 1);
        due("nonterminal(5, 0)", loaded("A=;F=;").nonterminal(5, 0), 1);
        due("nonterminal(6, 0)", loaded("A=;F=;").nonterminal(6, 0), BAD);
        sentence("0 for 1 if it is defined, 1 empty, 2 productive, 3 reachable, 4 recursive, 5 cyclic (0 if not)");
        int[][] properties = {{1, 1, 1, 1, 1, 1}, {1, 0, 0, 1, 0, 0}, {1, 0, 1, 0, 0, 0}, {1, 0, 1, 0, 1, 0}};
        for (int what = 0; what <= 5; what++) {
            for (int n = 0; n < properties.length; n++) {
                due("nonterminal(" + n + ", " + what + ")",
                    loaded("A=A|bB|;B=bB;C=c;D=Da|a;").nonterminal(n, what), properties[n][what]);
            }
        }
        sentence("6 for the number of its productions");
        dueProperty("A=" + times("|", 15) + ";", 6, 16, 0);
        dueProperty("F=||;A=;", 6, 1, 0, 0, 0, 0, 3);
        sentence("7 for the fewest letters of a word that is derived from it");
        dueProperty("A=a|;B=aA;C=BBBBB|DA;D=DA;", 7, 0, 1, 5, NONE);
        dueProperty("A=BBBBB;B=CCCCC;C=DDDDD;D=EEEEE;E=FFFFF;F=aaaaa;", 7, 15625, 3125, 625, 125, 25, 5);
        dueProperty("F=aaaaa;E=FFFFF;D=EEEEE;C=DDDDD;B=CCCCC;A=BBBBB;", 7, 15625, 3125, 625, 125, 25, 5);
        sentence("Returns the property (0 for 0 to 6 if it is not defined)");
        LookaheadDepths x = loaded("A=a;");
        for (int what = 0; what <= 6; what++) {
            for (int n = 1; n <= 5; n++) {
                due("nonterminal(" + n + ", " + what + ")", x.nonterminal(n, what), 0);
            }
        }
        sentence("NONE for 7 if there is no such word");
        due("nonterminal(5, 7), not defined", x.nonterminal(5, 7), NONE);
        due("nonterminal(0, 7), no word", loaded("A=A;").nonterminal(0, 7), NONE);
        due("nonterminal(0, 7), no end", loaded("A=aA|B;B=bA;").nonterminal(0, 7), NONE);
        dueProperty("A=BBBBB;B=CCCCC;C=DDDDD;D=EEEEE;E=FFFFF;F=aF;", 7, NONE, NONE, NONE, NONE, NONE, NONE);
        sentence("BAD if x or what is out of range.");
        for (int n : new int[] {LEAST, -1, 6, 32, MOST}) {
            due("nonterminal(" + n + ", 0)", x.nonterminal(n, 0), BAD);
            due("nonterminal(" + n + ", 7)", x.nonterminal(n, 7), BAD);
        }
        for (int what : new int[] {LEAST, -1, 8, MOST}) {
            due("nonterminal(0, " + what + ")", x.nonterminal(0, what), BAD);
            due("nonterminal(5, " + what + ")", x.nonterminal(5, what), BAD);
        }
    }

    private static final int[] NO_LOOKAHEADS = {LEAST, -1, 4, MOST};
    private static final int[] NO_NONTERMINALS = {LEAST, -1, 1, 5, 6, 32, MOST};

    private static void first() {
        promise(9);
        sentence("- x: the nonterminal, 0 to 5 - k: the number of letters, 0 to 3");
        due("first(5, 0, 0)", loaded("F=;A=;").first(5, 0, 0), 1);
        due("first(5, 3, 0)", loaded("F=;A=;").first(5, 3, 0), 1);
        due("first(0, 3, 0)", loaded("F=A;A=;").first(0, 3, 0), 1);
        due("first(6, 3, 0)", loaded("F=A;A=;").first(6, 3, 0), BAD);
        due("first(-1, 3, 0)", loaded("F=A;A=;").first(-1, 3, 0), BAD);
        due("first(5, 4, 0)", loaded("F=A;A=;").first(5, 4, 0), BAD);
        due("first(5, -1, 0)", loaded("F=A;A=;").first(5, -1, 0), BAD);
        sentence("Returns 1 if it is a first word by k of the nonterminal (as a sequence of one symbol), otherwise 0");
        LookaheadDepths x = loaded("A=eee|eeee|a|;C=C;");
        due("first(0, 3, eee)", x.first(0, 3, 215), 1);
        due("first(0, 2, ee)", x.first(0, 2, 35), 1);
        due("first(0, 1, e)", x.first(0, 1, 5), 1);
        due("first(0, 0, empty)", x.first(0, 0, 0), 1);
        due("first(0, 3, a)", x.first(0, 3, 1), 1);
        due("first(0, 3, empty)", x.first(0, 3, 0), 1);
        due("first(0, 3, ee), a part of one", x.first(0, 3, 35), 0);
        due("first(0, 3, e), a part of one", x.first(0, 3, 5), 0);
        due("first(0, 2, e), a part of one", x.first(0, 2, 5), 0);
        due("first(2, 0, empty), no word", x.first(2, 0, 0), 0);
        sentence("BAD if x is not defined, k is out of range, or word is not the number of a word with at most k letters.");
        LookaheadDepths y = loaded("A=a;");
        for (int n : NO_NONTERMINALS) {
            due("first(" + n + ", 0, 0)", y.first(n, 0, 0), BAD);
        }
        for (int k : NO_LOOKAHEADS) {
            due("first(0, " + k + ", 0)", y.first(0, k, 0), BAD);
        }
        dueWordNumbers("first(0, ", (k, word) -> y.first(0, k, word));
    }

    private interface ByWord {
        int ask(int k, int word);
    }

    /** Asks with numbers at the borders of those that words have, and with some that have a digit 0. */
    private static void dueWordNumbers(String call, ByWord asked) {
        int[] most = {0, 5, 35, 215};
        for (int k = 0; k <= 3; k++) {
            due(call + k + ", " + most[k] + ") is asked", asked.ask(k, most[k]) == BAD ? 1 : 0, 0);
            for (int word : new int[] {LEAST, -1, most[k] + 1, most[k] + 2, 216, 259, 1295, MOST}) {
                due(call + k + ", " + word + ")", asked.ask(k, word), BAD);
            }
        }
        for (int k = 2; k <= 3; k++) {
            for (int word : new int[] {6, 12, 30}) {
                due(call + k + ", " + word + "), a digit 0", asked.ask(k, word), BAD);
            }
        }
        for (int word : new int[] {36, 37, 41, 42, 48, 72, 180, 210}) {
            due(call + "3, " + word + "), a digit 0", asked.ask(3, word), BAD);
        }
    }

    private static void follow() {
        promise(10);
        sentence("- x: the nonterminal, 0 to 5 - k: the number of letters, 0 to 3");
        due("follow(5, 0, 0)", loaded("F=;A=;").follow(5, 0, 0), 1);
        due("follow(5, 3, 0)", loaded("F=;A=;").follow(5, 3, 0), 1);
        due("follow(0, 3, 0)", loaded("F=A;A=;").follow(0, 3, 0), 1);
        due("follow(6, 3, 0)", loaded("F=A;A=;").follow(6, 3, 0), BAD);
        due("follow(-1, 3, 0)", loaded("F=A;A=;").follow(-1, 3, 0), BAD);
        due("follow(5, 4, 0)", loaded("F=A;A=;").follow(5, 4, 0), BAD);
        due("follow(5, -1, 0)", loaded("F=A;A=;").follow(5, -1, 0), BAD);
        sentence("Returns 1 if it is a following word by k, otherwise 0");
        LookaheadDepths x = loaded("A=BC|BeeeB;B=;C=eeee;D=A;");
        due("follow(1, 3, eee)", x.follow(1, 3, 215), 1);
        due("follow(1, 2, ee)", x.follow(1, 2, 35), 1);
        due("follow(1, 1, e)", x.follow(1, 1, 5), 1);
        due("follow(1, 0, empty)", x.follow(1, 0, 0), 1);
        due("follow(1, 3, empty)", x.follow(1, 3, 0), 1);
        due("follow(1, 3, ee), a part of one", x.follow(1, 3, 35), 0);
        due("follow(1, 2, e), a part of one", x.follow(1, 2, 5), 0);
        due("follow(0, 3, empty)", x.follow(0, 3, 0), 1);
        due("follow(3, 0, empty), not reachable", x.follow(3, 0, 0), 0);
        sentence("BAD as for first().");
        LookaheadDepths y = loaded("A=a;");
        for (int n : NO_NONTERMINALS) {
            due("follow(" + n + ", 0, 0)", y.follow(n, 0, 0), BAD);
        }
        for (int k : NO_LOOKAHEADS) {
            due("follow(0, " + k + ", 0)", y.follow(0, k, 0), BAD);
        }
        dueWordNumbers("follow(0, ", (k, word) -> y.follow(0, k, word));
    }

    private static void ahead() {
        promise(11);
        sentence("Returns 1 if it is a word ahead by k, otherwise 0");
        LookaheadDepths x = loaded("A=eB;B=ee|;C=a;");
        due("ahead(0, 3, eee)", x.ahead(0, 3, 215), 1);
        due("ahead(0, 3, e)", x.ahead(0, 3, 5), 1);
        due("ahead(0, 3, ee)", x.ahead(0, 3, 35), 0);
        due("ahead(0, 2, ee)", x.ahead(0, 2, 35), 1);
        due("ahead(0, 0, empty)", x.ahead(0, 0, 0), 1);
        due("ahead(2, 3, empty)", x.ahead(2, 3, 0), 1);
        due("ahead(3, 0, empty), not reachable", x.ahead(3, 0, 0), 0);
        sentence("BAD if there is no such production, k is out of range, or word is not the number of a word with at "
            + "most k letters.");
        LookaheadDepths y = loaded("A=a;");
        for (int p : NO_NONTERMINALS) {
            due("ahead(" + p + ", 0, 0)", y.ahead(p, 0, 0), BAD);
        }
        for (int k : NO_LOOKAHEADS) {
            due("ahead(0, " + k + ", 0)", y.ahead(0, k, 0), BAD);
        }
        dueWordNumbers("ahead(0, ", (k, word) -> y.ahead(0, k, word));
        due("ahead(15, 0, 0)", loaded(fullGrammar()).ahead(15, 0, 0), 1);
        due("ahead(16, 0, 0)", loaded(fullGrammar()).ahead(16, 0, 0), BAD);
    }

    private static void words() {
        promise(12);
        sentence("- n: the nonterminal or the production - k: the number of letters, 0 to 3");
        due("words(0, 5, 3), a nonterminal", loaded("F=a|b;").words(0, 5, 3), 2);
        due("words(1, 5, 3), a nonterminal", loaded("F=a|b;").words(1, 5, 3), 1);
        due("words(2, 1, 3), a production", loaded("F=a|b;").words(2, 1, 3), 1);
        due("words(0, 1, 3), no nonterminal", loaded("F=a|b;").words(0, 1, 3), BAD);
        due("words(1, 1, 3), no nonterminal", loaded("F=a|b;").words(1, 1, 3), BAD);
        due("words(2, 5, 3), no production", loaded("F=a|b;").words(2, 5, 3), BAD);
        due("words(2, 15, 0)", loaded(fullGrammar()).words(2, 15, 0), 1);
        due("words(2, 16, 0)", loaded(fullGrammar()).words(2, 16, 0), BAD);
        sentence("0 for the first words and 1 for the following words of a nonterminal, 2 for the words ahead of a "
            + "production");
        LookaheadDepths x = loaded("A=BBBB|CA;B=a|b|c|d|e|;C=C;");
        int[] all = {1, 6, 31, 156};
        for (int k = 0; k <= 3; k++) {
            due("words(0, 0, " + k + ")", x.words(0, 0, k), all[k]);
            due("words(1, 0, " + k + ")", x.words(1, 0, k), 1);
            due("words(1, 1, " + k + ")", x.words(1, 1, k), all[k]);
            due("words(2, 0, " + k + ")", x.words(2, 0, k), all[k]);
            due("words(2, 1, " + k + "), no word", x.words(2, 1, k), 0);
            due("words(0, 2, " + k + "), no word", x.words(0, 2, k), 0);
        }
        sentence("BAD if kind or k is out of range, the nonterminal is not defined, or there is no such production.");
        LookaheadDepths y = loaded("A=a|b;C=;");
        for (int kind : new int[] {LEAST, -1, 3, MOST}) {
            due("words(" + kind + ", 0, 0)", y.words(kind, 0, 0), BAD);
        }
        for (int kind = 0; kind <= 2; kind++) {
            for (int k : NO_LOOKAHEADS) {
                due("words(" + kind + ", 0, " + k + ")", y.words(kind, 0, k), BAD);
            }
            for (int n : new int[] {LEAST, -1, 5, 6, 16, MOST}) {
                due("words(" + kind + ", " + n + ", 0)", y.words(kind, n, 0), BAD);
            }
        }
        due("words(0, 1, 0), not defined", y.words(0, 1, 0), BAD);
        due("words(1, 1, 0), not defined", y.words(1, 1, 0), BAD);
        due("words(2, 1, 0), a production", y.words(2, 1, 0), 1);
        due("words(0, 2, 0), defined", y.words(0, 2, 0), 1);
        due("words(2, 3, 0), no production", y.words(2, 3, 0), BAD);
    }

    private static void word() {
        promise(13);
        sentence("its place in the order of its words ahead by k, from 0");
        dueWordsAhead("A=B;B=eee|aaa|ee|e|;", 0, 3, "", "e", "ee", "aaa", "eee");
        dueWordsAhead("A=B;B=eee|aaa|ee|e|;", 0, 2, "", "e", "aa", "ee");
        dueWordsAhead("A=B;B=eee|aaa|ee|e|;", 0, 1, "", "a", "e");
        dueWordsAhead("A=B;B=eee|aaa|ee|e|;", 0, 0, "");
        sentence("NONE if there are not so many");
        LookaheadDepths x = loaded("A=BBBB;B=a|b|c|d|e|;C=;");
        due("word(0, 3, 155)", x.word(0, 3, 155), 215);
        due("word(0, 3, 156)", x.word(0, 3, 156), NONE);
        due("word(0, 2, 30)", x.word(0, 2, 30), 35);
        due("word(0, 2, 31)", x.word(0, 2, 31), NONE);
        due("word(0, 1, 5)", x.word(0, 1, 5), 5);
        due("word(0, 1, 6)", x.word(0, 1, 6), NONE);
        due("word(0, 0, 1)", x.word(0, 0, 1), NONE);
        due("word(0, 3, MOST)", x.word(0, 3, MOST), NONE);
        due("word(7, 3, 0), no words ahead", x.word(7, 3, 0), NONE);
        sentence("BAD if there is no such production, k is out of range or i is negative.");
        for (int p : new int[] {LEAST, -1, 8, 16, MOST}) {
            due("word(" + p + ", 0, 0)", x.word(p, 0, 0), BAD);
        }
        for (int k : NO_LOOKAHEADS) {
            due("word(0, " + k + ", 0)", x.word(0, k, 0), BAD);
        }
        for (int i : new int[] {LEAST, -1}) {
            due("word(0, 3, " + i + ")", x.word(0, 3, i), BAD);
            due("word(7, 3, " + i + "), no words ahead", x.word(7, 3, i), BAD);
        }
    }

    private static void marks() {
        promise(14);
        sentence("- i: the place, 0 to 2");
        due("marks(0, -1)", loaded("A=ab;").marks(0, -1), BAD);
        due("marks(0, 0)", loaded("A=ab;").marks(0, 0), 1);
        due("marks(0, 2)", loaded("A=ab;").marks(0, 2), 32);
        due("marks(0, 3)", loaded("A=ab;").marks(0, 3), BAD);
        sentence("Returns the set of the marks, as a bit mask (bit n for letter n, bit 5 for the end)");
        String letters = "abcde";
        for (int n = 0; n < 5; n++) {
            due("marks(0, 0) of letter " + n, loaded("A=" + letters.charAt(n) + ";").marks(0, 0), 1 << n);
            due("marks(0, 1) of letter " + n, loaded("A=a" + letters.charAt(n) + ";").marks(0, 1), 1 << n);
            due("marks(0, 2) of letter " + n, loaded("A=ab" + letters.charAt(n) + ";").marks(0, 2), 1 << n);
        }
        for (int i = 0; i <= 2; i++) {
            due("marks(0, " + i + ") of the empty word", loaded("A=;").marks(0, i), 32);
            due("marks(0, " + i + ") of all", loaded("A=BBB;B=a|b|c|d|e|;").marks(0, i), 63);
            due("marks(0, " + i + ") of none", loaded("A=A;").marks(0, i), 0);
        }
        sentence("BAD if there is no such production or i is out of range.");
        LookaheadDepths x = loaded("A=a|b;");
        for (int p : new int[] {LEAST, -1, 2, 16, MOST}) {
            due("marks(" + p + ", 0)", x.marks(p, 0), BAD);
        }
        for (int i : new int[] {LEAST, -1, 3, MOST}) {
            due("marks(0, " + i + ")", x.marks(0, i), BAD);
        }
    }

    private static void depth() {
        promise(15);
        sentence("- x: the nonterminal, 0 to 5");
        due("depth(5)", loaded("F=a|b;").depth(5), 1);
        due("depth(6)", loaded("F=a|b;").depth(6), BAD);
        due("depth(-1)", loaded("F=a|b;").depth(-1), BAD);
        sentence("Returns the depth");
        String[] grammars = {"A=aaa;", "A=aaa|baa;", "A=aaa|aba;", "A=aaa|aab;"};
        for (int k = 0; k <= 3; k++) {
            due("depth(0) of " + grammars[k], loaded(grammars[k]).depth(0), k);
        }
        sentence("NONE if it has none");
        due("depth(0), a fourth letter", loaded("A=aaaa|aaab;").depth(0), NONE);
        due("depth(0), equal ones", loaded("A=|;").depth(0), NONE);
        sentence("BAD if x is not defined.");
        for (int n : NO_NONTERMINALS) {
            due("depth(" + n + ")", loaded("A=a;").depth(n), BAD);
        }
        due("depth(5)", loaded("F=a;").depth(5), 0);
        due("depth(0)", loaded("F=a;").depth(0), BAD);
    }

    private static void approximate() {
        promise(16);
        sentence("- x: the nonterminal, 0 to 5");
        due("approximate(5)", loaded("F=a|b;").approximate(5), 1);
        due("approximate(6)", loaded("F=a|b;").approximate(6), BAD);
        due("approximate(-1)", loaded("F=a|b;").approximate(-1), BAD);
        sentence("Returns the approximate depth");
        String[] grammars = {"A=aaa;", "A=aaa|baa;", "A=aaa|aba;", "A=aaa|aab;"};
        for (int k = 0; k <= 3; k++) {
            due("approximate(0) of " + grammars[k], loaded(grammars[k]).approximate(0), k);
        }
        sentence("NONE if it has none");
        due("approximate(0), a fourth letter", loaded("A=aaaa|aaab;").approximate(0), NONE);
        due("approximate(0), one of three pairs", loaded("A=a|b|b;").approximate(0), NONE);
        sentence("BAD if x is not defined.");
        for (int n : NO_NONTERMINALS) {
            due("approximate(" + n + ")", loaded("A=a;").approximate(n), BAD);
        }
        due("approximate(5)", loaded("F=a;").approximate(5), 0);
        due("approximate(0)", loaded("F=a;").approximate(0), BAD);
    }

    private static void deepest() {
        promise(17);
        sentence("Returns the depth of the whole grammar, the greatest depth of its defined nonterminals.");
        due("deepest(false) at first", empty().deepest(false), 0);
        due("deepest(true) at first", empty().deepest(true), 0);
        due("deepest(false)", loaded("A=aB|b;B=aaa|aab;C=;").deepest(false), 3);
        due("deepest(true)", loaded("A=aB|b;B=aaa|aab;C=;").deepest(true), 3);
        due("deepest(false), the first", loaded("A=aaB|ab;B=a|b;").deepest(false), 2);
        due("deepest(true), not reachable", loaded("A=a;F=a|a;").deepest(true), 1);
        due("deepest(false), not reachable", loaded("A=a;F=a|a;").deepest(false), 0);
        sentence("NONE if some defined nonterminal has none.");
        due("deepest(false), the last", loaded("A=aF;F=a|a;").deepest(false), NONE);
        due("deepest(true), the last", loaded("A=aF;F=a|a;").deepest(true), NONE);
        due("deepest(false), the first", loaded("A=aF|ab;F=a|b;").deepest(false), NONE);
        due("deepest(false), marks alone", loaded("A=B|C;B=ab|ba;C=aa|bb;").deepest(false), 2);
        due("deepest(true), marks alone", loaded("A=B|C;B=ab|ba;C=aa|bb;").deepest(true), NONE);
    }

    private static void clash() {
        promise(18);
        sentence("- x: the nonterminal, 0 to 5 - k: the number of letters, 0 to 3");
        due("clash(5, 0)", loaded("F=a|a;").clash(5, 0), 1);
        due("clash(5, 3)", loaded("F=a|a;").clash(5, 3), 1);
        due("clash(5, 4)", loaded("F=a|a;").clash(5, 4), BAD);
        due("clash(5, -1)", loaded("F=a|a;").clash(5, -1), BAD);
        due("clash(6, 3)", loaded("F=a|a;").clash(6, 3), BAD);
        sentence("Returns 100 * p + q for the first such pair p < q, by p, then by q");
        LookaheadDepths x = loaded("B=A;A=e|b|c|bb|cc|cd;");
        due("clash(0, 0)", x.clash(0, 0), 102);
        due("clash(0, 1)", x.clash(0, 1), 204);
        due("clash(0, 1), by p first", loaded("A=a|b|b|a;").clash(0, 1), 3);
        due("clash(0, 3), the last pair", loaded("A=" + SIXTEEN + ";").clash(0, 3), 1415);
        due("clash(0, 0), the first pair", loaded("A=" + SIXTEEN + ";").clash(0, 0), 1);
        sentence("NONE if there is none");
        due("clash(0, 2)", x.clash(0, 2), NONE);
        due("clash(0, 3)", x.clash(0, 3), NONE);
        due("clash(1, 0), one production", x.clash(1, 0), NONE);
        due("clash(1, 0), no words ahead", loaded("A=a;B=c|c;").clash(1, 0), NONE);
        sentence("BAD if x is not defined or k is out of range.");
        for (int n : NO_NONTERMINALS) {
            due("clash(" + n + ", 0)", loaded("A=a|a;").clash(n, 0), BAD);
        }
        for (int k : NO_LOOKAHEADS) {
            due("clash(0, " + k + ")", loaded("A=a|a;").clash(0, k), BAD);
        }
    }

    /** Sixteen alternatives, of which the last two alone are equal. */
    private static final String SIXTEEN = "a|b|c|d|e|aa|ab|ac|ad|ae|ba|bb|bc|bd|be|be";

    private static void clashWord() {
        promise(19);
        sentence("Finds the word at which two productions clash, whatever their left sides are.");
        due("clashWord(0, 1, 1)", loaded("A=bB;B=b;").clashWord(0, 1, 1), w("b"));
        due("clashWord(0, 15, 0)", loaded(fullGrammar()).clashWord(0, 15, 0), 0);
        due("clashWord(15, 16, 0)", loaded(fullGrammar()).clashWord(15, 16, 0), BAD);
        sentence("- q: a production, another one or the same");
        LookaheadDepths x = loaded("A=eeee|e|C;C=eee|ea|;D=;");
        due("clashWord(0, 3, 3)", x.clashWord(0, 3, 3), 215);
        due("clashWord(3, 0, 3)", x.clashWord(3, 0, 3), 215);
        due("clashWord(0, 0, 3), the same", x.clashWord(0, 0, 3), 215);
        due("clashWord(2, 2, 3), the same", x.clashWord(2, 2, 3), 0);
        sentence("Returns the first word, in the order of words, that is a word ahead by k of both");
        due("clashWord(0, 1, 0)", x.clashWord(0, 1, 0), 0);
        due("clashWord(0, 1, 1)", x.clashWord(0, 1, 1), 5);
        due("clashWord of more letters but first signs", loaded("A=B|B;B=aaa|ee;").clashWord(0, 1, 3), w("ee"));
        due("clashWord of equally many", loaded("A=B|B;B=eab|eaa;").clashWord(0, 1, 3), w("eaa"));
        sentence("NONE if there is none");
        due("clashWord(0, 1, 2)", x.clashWord(0, 1, 2), NONE);
        due("clashWord(0, 1, 3)", x.clashWord(0, 1, 3), NONE);
        due("clashWord(6, 6, 0), no words ahead", x.clashWord(6, 6, 0), NONE);
        sentence("BAD if there is no such production or k is out of range.");
        for (int p : new int[] {LEAST, -1, 7, 16, MOST}) {
            due("clashWord(" + p + ", 0, 0)", x.clashWord(p, 0, 0), BAD);
            due("clashWord(0, " + p + ", 0)", x.clashWord(0, p, 0), BAD);
        }
        for (int k : NO_LOOKAHEADS) {
            due("clashWord(0, 0, " + k + ")", x.clashWord(0, 0, k), BAD);
        }
    }

    private static void parse() {
        promise(20);
        sentence("Returns the number of productions that were chosen");
        dueParse("A=;", "", 1, 0);
        due("60 productions", loaded(SIXTY, "").parse(), 60);
        sentence("-10 minus the number of letters that had been gone over, if it fails");
        dueParse("A=a|b;", "", -10);
        dueParse("A=a|b;", "c", -10);
        dueParse("A=aaaaB;B=aaaaC;C=b;", "aaaaaaaa", -18, 0, 1, 2);
        dueParse("A=aA|b;", "aaaaaaaa", -18, 0, 0, 0, 0, 0, 0, 0, 0);
        dueParse("A=a;", "aaaaaaaa", -11, 0);
        sentence("-100 minus the position of the fault, if the text buffer is no input");
        dueParse("A=a;", "!", -100);
        dueParse("A=a;", "aaaaaaaaa", -108);
        dueParse("A=a;", "aaaaaaa!", -107);
        sentence("STATE (before all these) if deepest(false) is NONE, or some reachable nonterminal is recursive.");
        dueParse("A=a|a;", "a", STATE);
        dueParse("A=a|a;", "!", STATE);
        dueParse("A=aF|b;F=aaaa|aaab;", "b", STATE);
        dueParse("A=Aa;", "a", STATE);
        dueParse("A=Aa;", "aaaaaaaaa", STATE);
        dueParse("A=aB|b;B=CB;C=;", "b", STATE);
        dueParse("A=b;B=Ba|B;", "b", 1, 0);
        dueParse("A=b;B=c|c;", "b", 1, 0);
        dueParse("A=B|C;B=ab|ba;C=aa|bb;", "bb", 2, 1, 5);
    }

    private static void chosen() {
        promise(21);
        sentence("Returns a production that the latest call of parse() chose, also if it failed in the end.");
        LookaheadDepths x = parsed("A=aA|b;", "aab");
        int[] choices = {0, 0, 1};
        for (int i = 0; i < 3; i++) {
            due("chosen(" + i + ")", x.chosen(i), choices[i]);
        }
        write(x, "ac");
        due("chosen(2) before the next parse()", x.chosen(2), 1);
        x.parse();
        due("chosen(0) of a failed one", x.chosen(0), 0);
        due("chosen(1) of a failed one", x.chosen(1), NONE);
        LookaheadDepths over = parsed(SIXTY_ONE, "");
        due("chosen(59) of 61", over.chosen(59), 3);
        due("chosen(60) of 61", over.chosen(60), NONE);
        sentence("- i: how many were chosen before it, from 0");
        due("chosen(0)", parsed("A=B;B=C;C=;", "").chosen(0), 0);
        due("chosen(2)", parsed("A=B;B=C;C=;", "").chosen(2), 2);
        due("chosen(3)", parsed("A=B;B=C;C=;", "").chosen(3), NONE);
        sentence("Returns the production (of the grammar as it was then)");
        LookaheadDepths y = parsed("A=B;B=a|b|c;", "c");
        write(y, "A=;");
        y.load();
        due("chosen(1) behind load()", y.chosen(1), 3);
        y.undo();
        y.undo();
        due("chosen(1) behind undo()", y.chosen(1), 3);
        sentence("NONE if not so many were chosen, or the latest call returned STATE or found a fault of the text, or "
            + "there was no such call");
        due("chosen(2)", y.chosen(2), NONE);
        due("chosen(MOST)", y.chosen(MOST), NONE);
        due("chosen(60) of 60", parsed(SIXTY, "").chosen(60), NONE);
        due("chosen(59) of 60", parsed(SIXTY, "").chosen(59), 3);
        LookaheadDepths fault = parsed("A=aA|b;", "aab");
        write(fault, "f");
        fault.parse();
        due("chosen(0) behind a fault of the text", fault.chosen(0), NONE);
        LookaheadDepths state = parsed("A=aA|b;", "aab");
        write(state, "A=A;");
        state.load();
        state.parse();
        due("chosen(0) behind STATE", state.chosen(0), NONE);
        due("chosen(0) without parse()", loaded("A=aA|b;", "b").chosen(0), NONE);
        LookaheadDepths derived = loaded("A=aA|b;", "b");
        derived.derivations();
        derived.step(0, 0);
        due("chosen(0) behind derivations() and step()", derived.chosen(0), NONE);
        sentence("BAD if i is negative.");
        due("chosen(-1)", y.chosen(-1), BAD);
        due("chosen(LEAST)", y.chosen(LEAST), BAD);
        due("chosen(-1) without parse()", empty().chosen(-1), BAD);
    }

    private static void derivations() {
        promise(22);
        sentence("Returns how many there are, but 1000000000 if there are more");
        dueCount("A=a;", "b", 0);
        dueCount("A=aA;", "a", 0);
        dueCount("A=a;", "a", 1);
        dueCount("A=a|a;", "a", 2);
        dueCount("A=AA|a;", "aaaaaaaa", 429);
        dueCount("A=BBBC;B=EEEE;C=|||;E=||||;", "", 976562500);
        dueCount("A=BBB;B=EEE;E=|||||||||;", "", 1000000000);
        dueCount("A=BBB|;B=EEE;E=|||||||||;", "", 1000000000);
        dueCount("A=BBBEE;B=EEE;E=|||||||||;", "", 1000000000);
        dueCount("A=BBBB;B=CCCC;C=DD;D=|;", "", 1000000000);
        dueCount("A=BBBB;B=CCCC;C=DDDD;D=|;", "", 1000000000);
        dueCount("A=BBBBB;B=CCCCC;C=DDDDD;D=EEEEE;E=FFFFF;F=||||||||||;", "", 1000000000);
        dueCount("A=BBBBa;B=CCCC;C=DDDD;D=|;", "", 0);
        dueCount("A=BBBBa;B=CCCC;C=DDDD;D=|;", "a", 1000000000);
        dueCount("A=BBBBB|b;B=CCCC;C=DDDD;D=|;", "b", 1);
        dueCount("A=BBBF;B=CCCC;C=DDDD;D=|;F=aF;", "", 0);
        dueCount("A=B|B|B|B|B;B=CCCCC;C=DDDDD;D=|;", "", 167772160);
        dueCount("A=B" + times("|B", 4) + ";B=CCCC;C=DDDEE;D=|;E=|||;", "", 1000000000);
        sentence("-100 minus the position of the fault, if the text buffer is no input");
        dueCount("A=a;", "!", -100);
        dueCount("A=a;", "aaaaaaaa", 0);
        dueCount("A=a;", "aaaaaaaaa", -108);
        dueCount("A=a;", "aA", -101);
        sentence("STATE (before these) if some reachable nonterminal is cyclic.");
        dueCount("A=A|a;", "a", STATE);
        dueCount("A=A|a;", "!", STATE);
        dueCount("A=A|a;", "aaaaaaaaa", STATE);
        dueCount("A=a|bB;B=CB;C=;", "a", STATE);
        dueCount("A=a;B=B;", "a", 1);
        dueCount("A=a;B=B;", "!", -100);
        dueCount("A=Aa|;", "aa", 1);
        dueCount("A=AB|a;B=b;", "abb", 1);
    }

    private static void step() {
        promise(23);
        sentence("- j: the place of the derivation in the order of derivations, 0 or 1");
        dueSteps("A=a|a|a;", "a", 0, 0);
        dueSteps("A=a|a|a;", "a", 1, 1);
        sentence("- i: the number of the step, 0 to 199 (later steps are not told)");
        LookaheadDepths hundreds = loaded("A=DCBB;D=CCCCC;C=BBBBB;B=FFFFF;F=;", "");
        due("step(0, 0) of 200 steps", hundreds.step(0, 0), 0);
        due("step(0, 198) of 200 steps", hundreds.step(0, 198), 4);
        due("step(0, 199) of 200 steps", hundreds.step(0, 199), 4);
        due("step(0, 200) of 200 steps", hundreds.step(0, 200), BAD);
        LookaheadDepths fewer = loaded("A=DCBEF;D=CCCCC;C=BBBBB;B=FFFFF;E=FFF;F=;", "");
        due("step(0, 198) of 199 steps", fewer.step(0, 198), 5);
        due("step(0, 199) of 199 steps", fewer.step(0, 199), NONE);
        LookaheadDepths more = loaded("A=BBBBB;B=CCCCC;C=DDDDD;D=EEEEE;E=FFFFF;F=|;", "");
        due("step(0, 199) of 3906 steps", more.step(0, 199), 5);
        due("step(1, 199) of 3906 steps", more.step(1, 199), 5);
        due("step(1, 200) of 3906 steps", more.step(1, 200), BAD);
        LookaheadDepths eight = loaded("A=BBCFF;B=aaaaC;C=DDDD;D=EEEEE;E=FF;F=;", "aaaaaaaa");
        due("step(0, 199) of 200 steps and 8 letters", eight.step(0, 199), 5);
        due("step(0, 2) of 200 steps and 8 letters", eight.step(0, 2), 2);
        LookaheadDepths high = loaded("A=BAAAA|;B=CAAAA;C=DAAAA;D=EAAAA;E=FAAAA;F=AaAAA|a;", "aaaaaaaa");
        int[] round = {0, 2, 3, 4, 5, 6};
        for (int i = 0; i < 48; i++) {
            due("step(0, " + i + ") of a high stack", high.step(0, i), round[i % 6]);
            due("step(1, " + i + ") of a high stack", high.step(1, i), i == 47 ? 7 : round[i % 6]);
        }
        for (int i : new int[] {48, 49, 120, 198, 199}) {
            due("step(0, " + i + ") of a high stack", high.step(0, i), 1);
            due("step(1, " + i + ") of a high stack", high.step(1, i), 1);
        }
        highestStack();
        LookaheadDepths late = loaded("A=DCBBa;D=CCCCC;C=BBBBB;B=FFFFF;F=|;", "a");
        due("step(0, 199), the last one", late.step(0, 199), 4);
        due("step(1, 199), the last one", late.step(1, 199), 5);
        due("step(1, 198)", late.step(1, 198), 4);
        sentence("Returns the production by which this step replaces a nonterminal");
        dueSteps("A=AA|a;", "aaa", 0, 0, 0, 1, 1, 1);
        dueSteps("A=AA|a;", "aaa", 1, 0, 1, 0, 1, 1);
        sentence("NONE if there are not so many derivations or steps");
        dueSteps("A=a;", "b", 0);
        dueSteps("A=a;", "b", 1);
        dueSteps("A=a;", "a", 0, 0);
        dueSteps("A=a;", "a", 1);
        due("step(1, 199)", loaded("A=a;", "a").step(1, 199), NONE);
        sentence("BAD if j is not 0 or 1, or i is out of range");
        LookaheadDepths x = loaded("A=a|a|a;", "a");
        for (int j : new int[] {LEAST, -1, 2, MOST}) {
            due("step(" + j + ", 0)", x.step(j, 0), BAD);
        }
        for (int i : new int[] {LEAST, -1, 200, MOST}) {
            due("step(0, " + i + ")", x.step(0, i), BAD);
            due("step(1, " + i + ")", x.step(1, i), BAD);
        }
        sentence("then STATE, then the faults of the text, as for derivations().");
        LookaheadDepths cyclic = loaded("A=A|a;", "!");
        due("step(2, 0), BAD first", cyclic.step(2, 0), BAD);
        due("step(0, 200), BAD first", cyclic.step(0, 200), BAD);
        due("step(0, 0), then STATE", cyclic.step(0, 0), STATE);
        due("step(1, 199), then STATE", cyclic.step(1, 199), STATE);
        due("step(0, 0), then the fault", loaded("A=a;", "aaaaaaaaa").step(0, 0), -108);
        due("step(1, 199), then the fault", loaded("A=a;", "!").step(1, 199), -100);
        due("step(2, 0), BAD before the fault", loaded("A=a;", "!").step(2, 0), BAD);
        due("step(0, 0), cyclic but not reachable", loaded("A=a;B=B;", "a").step(0, 0), 0);
    }

    /** Before its first letter is gone over, 213 symbols wait to be replaced or gone over in the first derivation. */
    private static void highestStack() {
        LookaheadDepths x = loaded("A=BFFFF;B=CFFFF;C=DFFFF;D=EFFFF;E=FFFFF;F=AaFFF|;", "aaaaaaaa");
        for (int i = 0; i < 60; i++) {
            int first = i < 53 ? i % 6 : 6;
            due("step(0, " + i + ") of the highest stack", x.step(0, i), first);
            int second = i < 47 ? i % 6 : i == 48 ? 5 : i > 48 && i < 54 ? i - 49 : 6;
            due("step(1, " + i + ") of the highest stack", x.step(1, i), second);
        }
        for (int i = 60; i < 200; i++) {
            due("step(0, " + i + ") of the highest stack", x.step(0, i), 6);
            due("step(1, " + i + ") of the highest stack", x.step(1, i), 6);
        }
    }

    private static void ambiguous() {
        promise(24);
        sentence("Finds the shortest word with several derivations: of those with at most 4 letters the one with the "
            + "fewest letters, of several the first one in the order of words.");
        dueAmbiguous("A=eeee|eeee|;", w("eeee"));
        dueAmbiguous("A=eeeee|eeeee|;", NONE);
        dueAmbiguous("A=aaaa|aaaa|eee|eee;", w("eee"));
        dueAmbiguous("A=ea|ea|ae|ae;", w("ae"));
        dueAmbiguous("A=eaaa|eaaa|dede|dede|dedd|dedd;", w("dedd"));
        dueAmbiguous("A=|a|a|e|e|;", 0);
        dueAmbiguous("A=BBBBB;B=a|b;C=;", NONE);
        dueAmbiguous("A=BC;B=ab|abc;C=cd|d;", w("abcd"));
        dueAmbiguous("A=BC;B=ab|abc;C=cde|de;", NONE);
        dueAmbiguous("A=BB;B=|b;", w("b"));
        dueAmbiguous("A=BD;B=e|ed;D=d|dd|;", w("ed"));
        dueAmbiguous("A=AA|e|d;", w("ddd"));
        dueAmbiguous("A=eAd|B;B=BB|ec;", NONE);
        dueAmbiguous("A=eBd|Cd;B=ee|e;C=eBe;", w("eeed"));
        dueAmbiguous("A=BBaB;B=c|d|;", w("ca"));
        sentence("Returns its letters as digits to the base 6, each plus 1, as for words by k");
        dueAmbiguous("A=|;", 0);
        dueAmbiguous("A=e|e;", 5);
        dueAmbiguous("A=ab|ab;", 8);
        dueAmbiguous("A=aaaa|aaaa;", 259);
        dueAmbiguous("A=eeee|eeee;", 1295);
        sentence("NONE if there is none");
        due("ambiguous() at first", empty().ambiguous(), NONE);
        dueAmbiguous("A=a;B=a|a;", NONE);
        dueAmbiguous("A=aA;", NONE);
        dueAmbiguous("A=B|C;B=bB;C=bC;", NONE);
        sentence("STATE if some reachable nonterminal is cyclic.");
        dueAmbiguous("A=A|a|a;", STATE);
        dueAmbiguous("A=a|bB;B=BC;C=;", STATE);
        dueAmbiguous("A=a|a;B=B;", 1);
    }

    private static void told() {
        promise(25);
        sentence("0 for the number of productions, 1 for the start, 2 for the set of the defined nonterminals, as a bit "
            + "mask, 3 for the bytes of the text buffer, 4 for the recorded grammars that are remembered");
        LookaheadDepths full = loaded("F=;E=;D=;C=;B=;A=" + times("|", 10) + ";");
        int[] numbers = {16, 5, 63, 28, 1, 0};
        for (int what = 0; what <= 5; what++) {
            due("told(" + what + ")", full.told(what), numbers[what]);
        }
        due("told(2) of F", loaded("F=;").told(2), 32);
        due("told(3) of 100", typed(times("a", 100)).told(3), 100);
        sentence("5 for the number of productions that the latest parse() chose, as for chosen() (0 if it returned STATE "
            + "or found a fault of the text)");
        due("told(5) of 60", parsed(SIXTY, "").told(5), 60);
        due("told(5) of 61", parsed(SIXTY_ONE, "").told(5), 60);
        due("told(5) of a failed one", parsed("A=aA|b;", "aac").told(5), 2);
        LookaheadDepths fault = parsed("A=aA|b;", "aab");
        due("told(5)", fault.told(5), 3);
        write(fault, "f");
        due("told(5) before parse()", fault.told(5), 3);
        fault.parse();
        due("told(5) behind a fault of the text", fault.told(5), 0);
        LookaheadDepths state = parsed("A=aA|b;", "aab");
        write(state, "A=A;");
        state.load();
        due("told(5) behind load()", state.told(5), 3);
        state.parse();
        due("told(5) behind STATE", state.told(5), 0);
        sentence("BAD if what is not 0 to 5.");
        for (int what : new int[] {LEAST, -1, 6, MOST}) {
            due("told(" + what + ")", full.told(what), BAD);
        }
    }

    private static void undo() {
        promise(26);
        sentence("Returns to the latest remembered grammar, which is not remembered any more then.");
        LookaheadDepths x = loaded("A=a|a;", "a");
        due("derivations()", x.derivations(), 2);
        due("ambiguous()", x.ambiguous(), 1);
        x.undo();
        due("derivations() behind undo()", x.derivations(), 0);
        due("ambiguous() behind undo()", x.ambiguous(), NONE);
        due("told(0) behind undo()", x.told(0), 1);
        due("told(4) behind undo()", x.told(4), 0);
        due("depth(0) behind undo()", x.depth(0), 0);
        sentence("The text buffer and what fault() and chosen() tell stay.");
        LookaheadDepths y = rich("ab");
        due("undo()", y.undo(), 1);
        due("told(3)", y.told(3), 2);
        due("fault()", y.fault(), 1);
        due("chosen(2)", y.chosen(2), 1);
        due("chosen(3)", y.chosen(3), NONE);
        due("told(5)", y.told(5), 3);
        sentence("Returns how many grammars are still remembered");
        LookaheadDepths z = typed("A=;");
        for (int n = 0; n < 5; n++) {
            z.load();
        }
        for (int n = 3; n >= 0; n--) {
            due("undo()", z.undo(), n);
        }
        sentence("STATE if there is none.");
        due("undo() at the end", z.undo(), STATE);
        due("undo() at first", empty().undo(), STATE);
        LookaheadDepths refused = typed("A");
        refused.load();
        due("undo() behind a load() that was refused", refused.undo(), STATE);
        z.load();
        due("undo() behind load()", z.undo(), 0);
    }

    private static void digest() {
        promise(27);
        sentence("h is 17313 at first; then h becomes 31 * h + v (long arithmetic that wraps around) for each of these "
            + "values v, in this order:");
        LookaheadDepths[] objects = {empty(), parsed(SIXTY, ""), parsed(SIXTY_ONE, ""), rich("ab!"), loaded("A=A;"),
            loaded(fullGrammar()), parsed("B=aB|b;F=|a;", "aaab"), parsed("A=B|C;B=ab|ba;C=aa|bb;E=c|c;", "bb"),
            typed(times("~", 100))};
        for (int n = 0; n < objects.length; n++) {
            due("digest() of object " + n, objects[n].digest(), mixed(objects[n]));
        }
        sentence("told() for 0 to 5; for each production production() for 0 and 1, symbol() for each symbol of its right "
            + "side, words(2, p, k) for the k 0 to 3, and marks() for 0 to 2; for each defined nonterminal its number, "
            + "nonterminal() for 1 to 7, words(0, x, 3), words(1, x, 3), depth(), approximate(), and clash(x, 3); "
            + "deepest(false) and deepest(true)");
        long h = 17313;
        for (long v : new long[] {1, 0, 1, 0, 0, 0, 0, 0, 1, 1, 1, 1, 32, 32, 32,
            0, 1, 1, 1, 0, 0, 1, 0, 1, 1, 0, 0, NONE, 0, 0, NONE}) {
            h = 31 * h + v;
        }
        due("digest() of a new object, by hand", empty().digest(), h);
        sentence("chosen(i) for each production that was chosen; fault().");
        LookaheadDepths x = parsed("A=a|b;", "a");
        LookaheadDepths y = parsed("A=a|b;", "b");
        due("digest() of another choice", y.digest() - x.digest(), 31);
        LookaheadDepths good = loaded("A=a|b;", "A=");
        long before = good.digest();
        good.load();
        due("digest() of fault 1 in place of NONE", good.digest() - before, 10);
    }

    /** The digest as the document tells it, from the answers of the other methods, in whole numbers without an end. */
    private static long mixed(LookaheadDepths x) {
        List<Integer> values = new ArrayList<>();
        for (int what = 0; what <= 5; what++) {
            values.add(x.told(what));
        }
        for (int p = 0; p < x.told(0); p++) {
            values.add(x.production(p, 0));
            values.add(x.production(p, 1));
            for (int i = 0; i < x.production(p, 1); i++) {
                values.add(x.symbol(p, i));
            }
            for (int k = 0; k <= 3; k++) {
                values.add(x.words(2, p, k));
            }
            for (int i = 0; i <= 2; i++) {
                values.add(x.marks(p, i));
            }
        }
        for (int n = 0; n < 6; n++) {
            if ((x.told(2) >> n & 1) == 1) {
                values.add(n);
                for (int what = 1; what <= 7; what++) {
                    values.add(x.nonterminal(n, what));
                }
                values.add(x.words(0, n, 3));
                values.add(x.words(1, n, 3));
                values.add(x.depth(n));
                values.add(x.approximate(n));
                values.add(x.clash(n, 3));
            }
        }
        values.add(x.deepest(false));
        values.add(x.deepest(true));
        for (int i = 0; x.chosen(i) != NONE; i++) {
            values.add(x.chosen(i));
        }
        values.add(x.fault());
        BigInteger h = BigInteger.valueOf(17313);
        for (int v : values) {
            h = h.multiply(BigInteger.valueOf(31)).add(BigInteger.valueOf(v));
        }
        return h.longValue();
    }
}

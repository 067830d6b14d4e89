import java.math.BigInteger;
import java.util.ArrayDeque;
import java.util.ArrayList;
import java.util.Arrays;
import java.util.HashMap;
import java.util.List;
import java.util.Map;
import java.util.Random;
import java.util.Set;
import java.util.TreeSet;

/**
 * Makes random calls, with a fixed seed, on the class and on a plain model of the document that works with sets of
 * strings, and compares every answer.
 */
public final class OracleTest {
    private static final int RUNS = 600;
    private static final int CALLS = 512;
    private static final int[] EXTREMES = {Integer.MIN_VALUE, Integer.MIN_VALUE + 1, -1000, 1000, Integer.MAX_VALUE - 1, Integer.MAX_VALUE};
    private static final BigInteger MOST = BigInteger.valueOf(1000000000);

    private static int wrong = 0;
    private static final Map<String, Integer> SEEN = new HashMap<>();

    public static void main(String[] args) {
        int runs = args.length > 0 ? Integer.parseInt(args[0]) : RUNS;
        int seed = args.length > 1 ? Integer.parseInt(args[1]) : 1;
        for (int run = 0; run < runs && wrong < 20; run++) {
            new Run(new Random(seed * 1000003L + run), run).go();
        }
        if (args.length > 0) {
            SEEN.entrySet().stream().sorted(Map.Entry.comparingByKey()).forEach(e -> System.out.println(e.getKey() + " " + e.getValue()));
        }
        for (String due : new String[] {"parse ok", "parse failed", "parse STATE", "derivations many", "step told",
            "ambiguous word", "ambiguous NONE", "load fault 1", "load fault 2", "load fault 3", "load fault 4", "load fault 5"}) {
            if (!SEEN.containsKey(due)) {
                wrong++;
                System.out.println("the runs never came upon: " + due);
            }
        }
        System.out.println(wrong == 0 ? "all answers are those of the model" : wrong + " answers are not those of the model");
        if (wrong != 0) {
            System.exit(1);
        }
    }

    private static void see(String what) {
        SEEN.merge(what, 1, Integer::sum);
    }

    /** One object and one model, with the same calls. */
    private static final class Run {
        final Random random;
        final int number;
        final LookaheadDepths real = new LookaheadDepths();
        final Model model = new Model();
        int calls = 0;

        Run(Random random, int number) {
            this.random = random;
            this.number = number;
        }

        void due(String call, long got, long want) {
            calls++;
            if (got != want) {
                wrong++;
                System.out.println("run " + number + ", grammar " + model.now + ", text " + model.text + ": " + call
                    + " answered " + got + ", due is " + want);
            }
        }

        void go() {
            due("digest()", real.digest(), model.digest());
            while (calls < CALLS - 130 && wrong < 20) {
                int what = random.nextInt(20);
                if (what < 3) {
                    write(Texts.grammar(random));
                    load();
                } else if (what == 3) {
                    write(Texts.broken(random));
                    load();
                } else if (what == 4 && random.nextInt(3) == 0) {
                    due("undo()", real.undo(), model.undo());
                } else if (what < 9) {
                    write(Texts.input(random, model.now));
                    askInput();
                } else if (what < 12) {
                    askInput();
                } else if (what == 12) {
                    due("digest()", real.digest(), model.digest());
                } else {
                    askGrammar();
                }
            }
            due("digest()", real.digest(), model.digest());
        }

        void write(String text) {
            if (random.nextInt(20) > 0) {
                due("clear()", real.clear(), model.clear());
            }
            for (char c : text.toCharArray()) {
                due("type(" + (int) c + ")", real.type(c), model.type(c));
            }
            if (random.nextInt(8) == 0) {
                int c = near(30, 130);
                due("type(" + c + ")", real.type(c), model.type(c));
            }
        }

        void load() {
            int answer = model.load();
            due("load()", real.load(), answer);
            due("fault()", real.fault(), model.fault);
            see("load " + (answer < 0 ? "fault " + model.fault : "ok"));
        }

        void askInput() {
            int answer = model.parse();
            due("parse()", real.parse(), answer);
            see("parse " + (answer >= 0 ? "ok" : answer == -2 ? "STATE" : answer > -100 ? "failed" : "fault"));
            for (int i = -1; i <= 2 + random.nextInt(6); i++) {
                due("chosen(" + i + ")", real.chosen(i), model.chosenAt(i));
            }
            int far = near(0, 60);
            due("chosen(" + far + ")", real.chosen(far), model.chosenAt(far));
            due("told(5)", real.told(5), model.told(5));
            int count = model.derivations();
            due("derivations()", real.derivations(), count);
            see("derivations " + (count < 0 ? "error" : count < 2 ? "" + count : "many"));
            for (int n = 0; n < 6; n++) {
                int j = near(0, 1);
                int i = random.nextInt(8) == 0 ? near(0, 200) : random.nextInt(8);
                int step = model.step(j, i);
                due("step(" + j + ", " + i + ")", real.step(j, i), step);
                see("step " + (step >= 0 ? "told" : "" + step));
            }
            if (random.nextInt(3) == 0) {
                int word = model.ambiguous();
                due("ambiguous()", real.ambiguous(), word);
                see("ambiguous " + (word >= 0 ? "word" : word == -9 ? "NONE" : "STATE"));
            }
        }

        int near(int least, int most) {
            if (random.nextInt(60) == 0) {
                return EXTREMES[random.nextInt(EXTREMES.length)];
            }
            return random.nextInt(10) == 0 ? least - 1 + random.nextInt(most - least + 3) : least + random.nextInt(most - least + 1);
        }

        void askGrammar() {
            int x = near(0, 5);
            if (random.nextBoolean() && !model.now.isEmpty()) {
                x = model.now.get(random.nextInt(model.now.size())).left - 'A';
            }
            int p = near(0, model.now.size());
            int q = near(0, model.now.size());
            int k = near(0, 3);
            int i = near(0, 6);
            int w = random.nextBoolean() ? near(0, 216) : near(0, 10);
            int what = near(0, 7);
            due("production(" + p + ", " + what + ")", real.production(p, what), model.production(p, what));
            due("symbol(" + p + ", " + i + ")", real.symbol(p, i), model.symbol(p, i));
            due("nonterminal(" + x + ", " + what + ")", real.nonterminal(x, what), model.nonterminal(x, what));
            due("first(" + x + ", " + k + ", " + w + ")", real.first(x, k, w), model.first(x, k, w));
            due("follow(" + x + ", " + k + ", " + w + ")", real.follow(x, k, w), model.follow(x, k, w));
            due("ahead(" + p + ", " + k + ", " + w + ")", real.ahead(p, k, w), model.ahead(p, k, w));
            for (int kind = -1; kind < 4; kind++) {
                int n = kind == 2 ? p : x;
                due("words(" + kind + ", " + n + ", " + k + ")", real.words(kind, n, k), model.words(kind, n, k));
            }
            due("word(" + p + ", " + k + ", " + i + ")", real.word(p, k, i), model.word(p, k, i));
            due("marks(" + p + ", " + k + ")", real.marks(p, k), model.marks(p, k));
            due("depth(" + x + ")", real.depth(x), model.depth(x));
            due("approximate(" + x + ")", real.approximate(x), model.approximate(x));
            due("deepest(false)", real.deepest(false), model.deepest(false));
            due("deepest(true)", real.deepest(true), model.deepest(true));
            due("clash(" + x + ", " + k + ")", real.clash(x, k), model.clash(x, k));
            due("clashWord(" + p + ", " + q + ", " + k + ")", real.clashWord(p, q, k), model.clashWord(p, q, k));
            due("told(" + what + ")", real.told(what), model.told(what));
            see("depth " + model.depth(x));
            see("approximate " + model.approximate(x));
        }
    }

    /** Random texts. */
    private static final class Texts {
        static String grammar(Random random) {
            int style = random.nextInt(4);
            int nonterminals = 1 + random.nextInt(random.nextInt(4) == 0 ? 6 : 3);
            int letters = 1 + random.nextInt(random.nextInt(4) == 0 ? 5 : 3);
            String lefts = shuffled(random, "ABCDEF").substring(0, nonterminals);
            StringBuilder text = new StringBuilder();
            int productions = 0;
            for (int n = 0; n < nonterminals; n++) {
                StringBuilder rule = new StringBuilder();
                int alternatives = 1 + random.nextInt(random.nextInt(6) == 0 ? 6 : 3);
                String heads = shuffled(random, "abcde".substring(0, letters));
                for (int a = 0; a < alternatives; a++) {
                    rule.append(a == 0 ? lefts.charAt(n) + "=" : "|");
                    int length = random.nextInt(random.nextInt(4) == 0 ? 6 : 3);
                    if (style > 0 && a < heads.length() && random.nextInt(8) > 0) {
                        rule.append(heads.charAt(a));
                        length = Math.min(length, 4);
                    }
                    for (int i = 0; i < length; i++) {
                        int later = style == 2 ? n + 1 : 0;
                        if (random.nextInt(5) < 2 && later < nonterminals) {
                            rule.append(lefts.charAt(later + random.nextInt(nonterminals - later)));
                        } else {
                            rule.append((char) ('a' + random.nextInt(letters)));
                        }
                    }
                }
                if (text.length() + rule.length() < 96 && productions + alternatives <= 16) {
                    text.append(rule).append(';');
                    productions += alternatives;
                } else if (text.length() < 95) {
                    text.append(lefts.charAt(n)).append("=;");
                    productions++;
                }
            }
            return text.toString();
        }

        static String shuffled(Random random, String letters) {
            char[] c = letters.toCharArray();
            for (int i = c.length - 1; i > 0; i--) {
                int j = random.nextInt(i + 1);
                char t = c[i];
                c[i] = c[j];
                c[j] = t;
            }
            return new String(c);
        }

        static String broken(Random random) {
            StringBuilder text = new StringBuilder(grammar(random));
            String signs = "ABCDEFGabcdef=|;;=||!~";
            int changes = 1 + random.nextInt(3);
            for (int n = 0; n < changes && text.length() > 0; n++) {
                int at = random.nextInt(text.length());
                int how = random.nextInt(4);
                if (how == 0) {
                    text.deleteCharAt(at);
                } else if (how == 1) {
                    text.insert(at, signs.charAt(random.nextInt(signs.length())));
                } else if (how == 2) {
                    text.setCharAt(at, signs.charAt(random.nextInt(signs.length())));
                } else {
                    text.setLength(at);
                }
            }
            if (random.nextInt(6) == 0) {
                text.insert(Math.min(2, text.length()), "||||||||||||||||".substring(random.nextInt(4)));
            }
            if (random.nextInt(6) == 0) {
                text.append(text);
            }
            return text.length() > 100 ? text.substring(0, 100) : text.toString();
        }

        /** Half of the inputs are tried to be words of the grammar. */
        static String input(Random random, List<Production> productions) {
            if (random.nextInt(12) == 0) {
                return broken(random);
            }
            for (int tries = 0; tries < 30 && random.nextInt(10) > 0; tries++) {
                String form = "" + productions.get(0).left;
                for (int steps = 0; steps < 30 && form.length() < 20; steps++) {
                    int at = 0;
                    while (at < form.length() && Character.isLowerCase(form.charAt(at))) {
                        at++;
                    }
                    if (at == form.length()) {
                        break;
                    }
                    List<Production> own = new ArrayList<>();
                    for (Production p : productions) {
                        if (p.left == form.charAt(at)) {
                            own.add(p);
                        }
                    }
                    form = form.substring(0, at) + own.get(random.nextInt(own.size())).right + form.substring(at + 1);
                }
                if (form.length() <= 8 && form.chars().allMatch(Character::isLowerCase)) {
                    return random.nextInt(4) == 0 && form.length() > 0 ? form.substring(1) : form;
                }
            }
            StringBuilder text = new StringBuilder();
            int length = random.nextInt(random.nextInt(6) == 0 ? 10 : 6);
            for (int i = 0; i < length; i++) {
                text.append((char) ('a' + random.nextInt(random.nextInt(4) == 0 ? 5 : 2)));
            }
            return text.toString();
        }
    }

    private static final class Production {
        final char left;
        final String right;

        Production(char left, String right) {
            this.left = left;
            this.right = right;
        }

        @Override
        public String toString() {
            return left + "=" + right;
        }
    }

    /** The document, in plain words. */
    private static final class Model {
        String text = "";
        List<Production> now = List.of(new Production('A', ""));
        final ArrayDeque<List<Production>> remembered = new ArrayDeque<>();
        int fault = -9;
        List<Integer> chosen = new ArrayList<>();

        final Map<String, Set<String>> sets = new HashMap<>();
        final Map<String, BigInteger> counts = new HashMap<>();
        List<List<Integer>> listed = null;

        void changed() {
            sets.clear();
            counts.clear();
            listed = null;
        }

        int type(int c) {
            if (c < 33 || c > 126) {
                return -1;
            }
            if (text.length() == 100) {
                return -3;
            }
            text += (char) c;
            counts.clear();
            listed = null;
            return text.length();
        }

        int clear() {
            int had = text.length();
            text = "";
            counts.clear();
            listed = null;
            return had;
        }

        int load() {
            List<Production> read = new ArrayList<>();
            int[] found = read(read);
            fault = found[0];
            if (fault != -9) {
                return -10 - found[1];
            }
            remembered.addLast(now);
            if (remembered.size() > 4) {
                remembered.removeFirst();
            }
            now = read;
            changed();
            return now.size();
        }

        /** Kind and position of the fault. */
        int[] read(List<Production> read) {
            int at = 0;
            String ruled = "";
            List<Integer> uses = new ArrayList<>();
            do {
                if (at == text.length() || text.charAt(at) < 'A' || text.charAt(at) > 'F') {
                    return new int[] {1, at};
                }
                char left = text.charAt(at);
                if (ruled.indexOf(left) >= 0) {
                    return new int[] {2, at};
                }
                ruled += left;
                at++;
                if (at == text.length() || text.charAt(at) != '=') {
                    return new int[] {1, at};
                }
                char sign;
                do {
                    at++;
                    if (read.size() == 16) {
                        return new int[] {3, at};
                    }
                    String right = "";
                    while (at < text.length() && "abcdeABCDEF".indexOf(text.charAt(at)) >= 0) {
                        if (right.length() == 5) {
                            return new int[] {4, at};
                        }
                        if (text.charAt(at) <= 'F') {
                            uses.add(at);
                        }
                        right += text.charAt(at);
                        at++;
                    }
                    if (at == text.length()) {
                        return new int[] {1, at};
                    }
                    sign = text.charAt(at);
                    if (sign != '|' && sign != ';') {
                        return new int[] {1, at};
                    }
                    read.add(new Production(left, right));
                } while (sign == '|');
                at++;
            } while (at < text.length());
            for (int use : uses) {
                if (ruled.indexOf(text.charAt(use)) < 0) {
                    return new int[] {5, use};
                }
            }
            return new int[] {-9, 0};
        }

        boolean isProduction(int p) {
            return p >= 0 && p < now.size();
        }

        boolean isDefined(int x) {
            return now.stream().anyMatch(p -> p.left - 'A' == x);
        }

        int production(int p, int what) {
            if (!isProduction(p) || what < 0 || what > 1) {
                return -1;
            }
            return what == 0 ? now.get(p).left - 'A' : now.get(p).right.length();
        }

        int symbol(int p, int i) {
            if (!isProduction(p) || i < 0) {
                return -1;
            }
            if (i >= now.get(p).right.length()) {
                return -9;
            }
            char c = now.get(p).right.charAt(i);
            return c >= 'a' ? c - 'a' : 10 + c - 'A';
        }

        int nonterminal(int x, int what) {
            if (x < 0 || x > 5 || what < 0 || what > 7) {
                return -1;
            }
            char c = (char) ('A' + x);
            switch (what) {
                case 0:
                    return isDefined(x) ? 1 : 0;
                case 1:
                    return isEmpty(c) ? 1 : 0;
                case 2:
                    return fewest(c) >= 0 ? 1 : 0;
                case 3:
                    return reachable(now.get(0).left).indexOf(c) >= 0 || now.get(0).left == c ? 1 : 0;
                case 4:
                    return isRecursive(c) ? 1 : 0;
                case 5:
                    return isCyclic(c) ? 1 : 0;
                case 6:
                    return (int) now.stream().filter(p -> p.left == c).count();
                default:
                    return fewest(c) >= 0 ? fewest(c) : -9;
            }
        }

        boolean isEmpty(char c) {
            return c < 'a' && firsts("" + c, 1).contains("");
        }

        boolean isEmpty(String symbols) {
            return symbols.chars().allMatch(c -> isEmpty((char) c));
        }

        int fewest(char c) {
            Map<Character, Integer> least = new HashMap<>();
            boolean changed = true;
            while (changed) {
                changed = false;
                for (Production p : now) {
                    int sum = 0;
                    for (char s : p.right.toCharArray()) {
                        sum = sum < 0 ? -1 : s >= 'a' ? sum + 1 : least.containsKey(s) ? sum + least.get(s) : -1;
                    }
                    if (sum >= 0 && least.getOrDefault(p.left, Integer.MAX_VALUE) > sum) {
                        least.put(p.left, sum);
                        changed = true;
                    }
                }
            }
            return least.getOrDefault(c, -1);
        }

        interface Related {
            boolean test(Production p, int i);
        }

        /** The nonterminals that come from one by one or several steps of a relation. */
        String closure(char from, Related related) {
            String reached = "";
            ArrayDeque<Character> open = new ArrayDeque<>(List.of(from));
            while (!open.isEmpty()) {
                char c = open.removeFirst();
                for (Production p : now) {
                    for (int i = 0; p.left == c && i < p.right.length(); i++) {
                        char s = p.right.charAt(i);
                        if (s < 'a' && reached.indexOf(s) < 0 && related.test(p, i)) {
                            reached += s;
                            open.addLast(s);
                        }
                    }
                }
            }
            return reached;
        }

        String reachable(char from) {
            return closure(from, (p, i) -> true);
        }

        boolean isRecursive(char c) {
            return closure(c, (p, i) -> isEmpty(p.right.substring(0, i))).indexOf(c) >= 0;
        }

        boolean isCyclic(char c) {
            return closure(c, (p, i) -> isEmpty(p.right.substring(0, i)) && isEmpty(p.right.substring(i + 1))).indexOf(c) >= 0;
        }

        static String cut(String word, int k) {
            return word.length() <= k ? word : word.substring(0, k);
        }

        static Set<String> join(Set<String> front, Set<String> back, int k) {
            Set<String> joined = new TreeSet<>();
            for (String f : front) {
                for (String b : back) {
                    joined.add(cut(f + b, k));
                }
            }
            return joined;
        }

        Set<String> firsts(String symbols, int k) {
            Set<String> words = new TreeSet<>(Set.of(""));
            for (char s : symbols.toCharArray()) {
                words = join(words, firstsOf(s, k), k);
            }
            return words;
        }

        Set<String> firstsOf(char s, int k) {
            if (s >= 'a') {
                return Set.of(cut("" + s, k));
            }
            if (!sets.containsKey("firsts A " + k)) {
                for (char c = 'A'; c <= 'F'; c++) {
                    sets.put("firsts " + c + " " + k, new TreeSet<>());
                }
                boolean changed = true;
                while (changed) {
                    changed = false;
                    for (Production p : now) {
                        changed |= sets.get("firsts " + p.left + " " + k).addAll(firsts(p.right, k));
                    }
                }
            }
            return sets.get("firsts " + s + " " + k);
        }

        Set<String> follows(char c, int k) {
            if (!sets.containsKey("follows A " + k)) {
                Set<String> found = new TreeSet<>();
                ArrayDeque<String> open = new ArrayDeque<>();
                open.add("" + now.get(0).left);
                found.add("" + now.get(0).left);
                while (!open.isEmpty()) {
                    String pair = open.removeFirst();
                    for (Production p : now) {
                        for (int i = 0; p.left == pair.charAt(0) && i < p.right.length(); i++) {
                            if (p.right.charAt(i) < 'a') {
                                for (String w : firsts(p.right.substring(i + 1), k)) {
                                    String next = p.right.charAt(i) + cut(w + pair.substring(1), k);
                                    if (found.add(next)) {
                                        open.add(next);
                                    }
                                }
                            }
                        }
                    }
                }
                for (char x = 'A'; x <= 'F'; x++) {
                    Set<String> own = new TreeSet<>();
                    for (String pair : found) {
                        if (pair.charAt(0) == x) {
                            own.add(pair.substring(1));
                        }
                    }
                    sets.put("follows " + x + " " + k, own);
                }
            }
            return sets.get("follows " + c + " " + k);
        }

        Set<String> aheads(int p, int k) {
            String key = "aheads " + p + " " + k;
            if (!sets.containsKey(key)) {
                sets.put(key, join(firsts(now.get(p).right, k), follows(now.get(p).left, k), k));
            }
            return sets.get(key);
        }

        static int number(String word) {
            int number = 0;
            for (char c : word.toCharArray()) {
                number = 6 * number + c - 'a' + 1;
            }
            return number;
        }

        /** The word with a number; null if there is none with at most k letters. */
        static String spelled(int number, int k) {
            for (String word : allWords(k)) {
                if (number(word) == number) {
                    return word;
                }
            }
            return null;
        }

        static List<String> allWords(int k) {
            List<String> words = new ArrayList<>(List.of(""));
            for (int i = 0; i < words.size(); i++) {
                for (char c = 'a'; words.get(i).length() < k && c <= 'e'; c++) {
                    words.add(words.get(i) + c);
                }
            }
            return words;
        }

        int first(int x, int k, int word) {
            if (!isDefined(x) || k < 0 || k > 3 || spelled(word, k) == null) {
                return -1;
            }
            return firstsOf((char) ('A' + x), k).contains(spelled(word, k)) ? 1 : 0;
        }

        int follow(int x, int k, int word) {
            if (!isDefined(x) || k < 0 || k > 3 || spelled(word, k) == null) {
                return -1;
            }
            return follows((char) ('A' + x), k).contains(spelled(word, k)) ? 1 : 0;
        }

        int ahead(int p, int k, int word) {
            if (!isProduction(p) || k < 0 || k > 3 || spelled(word, k) == null) {
                return -1;
            }
            return aheads(p, k).contains(spelled(word, k)) ? 1 : 0;
        }

        int words(int kind, int n, int k) {
            if (kind < 0 || kind > 2 || k < 0 || k > 3 || (kind == 2 ? !isProduction(n) : !isDefined(n))) {
                return -1;
            }
            char x = (char) ('A' + n);
            return (kind == 0 ? firstsOf(x, k) : kind == 1 ? follows(x, k) : aheads(n, k)).size();
        }

        int word(int p, int k, int i) {
            if (!isProduction(p) || k < 0 || k > 3 || i < 0) {
                return -1;
            }
            int[] numbers = aheads(p, k).stream().sorted((a, b) -> a.length() != b.length() ? a.length() - b.length() : a.compareTo(b))
                .mapToInt(Model::number).toArray();
            return i < numbers.length ? numbers[i] : -9;
        }

        int marks(int p, int i) {
            if (!isProduction(p) || i < 0 || i > 2) {
                return -1;
            }
            int mask = 0;
            for (String w : aheads(p, i + 1)) {
                mask |= w.length() <= i ? 32 : 1 << w.charAt(i) - 'a';
            }
            return mask;
        }

        List<Integer> of(int x) {
            List<Integer> own = new ArrayList<>();
            for (int p = 0; p < now.size(); p++) {
                if (now.get(p).left - 'A' == x) {
                    own.add(p);
                }
            }
            return own;
        }

        boolean clashes(int p, int q, int k) {
            return aheads(p, k).stream().anyMatch(aheads(q, k)::contains);
        }

        int depth(int x) {
            if (!isDefined(x)) {
                return -1;
            }
            for (int k = 0; k <= 3; k++) {
                boolean fine = true;
                for (int p : of(x)) {
                    for (int q : of(x)) {
                        fine &= p == q || !clashes(p, q, k);
                    }
                }
                if (fine) {
                    return k;
                }
            }
            return -9;
        }

        int approximate(int x) {
            if (!isDefined(x)) {
                return -1;
            }
            for (int k = 0; k <= 3; k++) {
                boolean fine = true;
                for (int p : of(x)) {
                    for (int q : of(x)) {
                        boolean parted = p == q;
                        for (int i = 0; i < k; i++) {
                            parted |= (marks(p, i) & marks(q, i)) == 0;
                        }
                        fine &= parted;
                    }
                }
                if (fine) {
                    return k;
                }
            }
            return -9;
        }

        int deepest(boolean approximate) {
            int most = 0;
            for (int x = 0; x < 6; x++) {
                if (isDefined(x)) {
                    int own = approximate ? approximate(x) : depth(x);
                    if (own == -9) {
                        return -9;
                    }
                    most = Math.max(most, own);
                }
            }
            return most;
        }

        int clash(int x, int k) {
            if (!isDefined(x) || k < 0 || k > 3) {
                return -1;
            }
            for (int p : of(x)) {
                for (int q : of(x)) {
                    if (p < q && clashes(p, q, k)) {
                        return 100 * p + q;
                    }
                }
            }
            return -9;
        }

        int clashWord(int p, int q, int k) {
            if (!isProduction(p) || !isProduction(q) || k < 0 || k > 3) {
                return -1;
            }
            for (String w : allWords(k)) {
                if (aheads(p, k).contains(w) && aheads(q, k).contains(w)) {
                    return number(w);
                }
            }
            return -9;
        }

        boolean someReachable(int what) {
            for (int x = 0; x < 6; x++) {
                if (nonterminal(x, 3) == 1 && nonterminal(x, what) == 1) {
                    return true;
                }
            }
            return false;
        }

        int inputFault() {
            for (int i = 0; i < text.length(); i++) {
                if (text.charAt(i) < 'a' || text.charAt(i) > 'e' || i == 8) {
                    return i;
                }
            }
            return -1;
        }

        int parse() {
            chosen = new ArrayList<>();
            if (deepest(false) == -9 || someReachable(4)) {
                return -2;
            }
            if (inputFault() >= 0) {
                return -100 - inputFault();
            }
            String stack = "" + now.get(0).left;
            String rest = text;
            while (!stack.isEmpty()) {
                char top = stack.charAt(0);
                stack = stack.substring(1);
                if (top >= 'a') {
                    if (!rest.startsWith("" + top)) {
                        return -10 - (text.length() - rest.length());
                    }
                    rest = rest.substring(1);
                } else {
                    int choice = -1;
                    for (int p : of(top - 'A')) {
                        int k = depth(top - 'A');
                        if (aheads(p, k).contains(cut(rest, k))) {
                            choice = p;
                        }
                    }
                    if (choice < 0 || chosen.size() == 60) {
                        return -10 - (text.length() - rest.length());
                    }
                    chosen.add(choice);
                    stack = now.get(choice).right + stack;
                }
            }
            return rest.isEmpty() ? chosen.size() : -10 - (text.length() - rest.length());
        }

        int chosenAt(int i) {
            return i < 0 ? -1 : i < chosen.size() ? chosen.get(i) : -9;
        }

        /** The derivations of a word from symbols; none may be cyclic. */
        BigInteger count(String symbols, String word) {
            if (symbols.isEmpty()) {
                return word.isEmpty() ? BigInteger.ONE : BigInteger.ZERO;
            }
            char s = symbols.charAt(0);
            String rest = symbols.substring(1);
            if (s >= 'a') {
                return word.startsWith("" + s) ? count(rest, word.substring(1)) : BigInteger.ZERO;
            }
            String key = symbols + " " + word;
            if (counts.containsKey(key)) {
                return counts.get(key);
            }
            BigInteger sum = BigInteger.ZERO;
            for (int m = 0; m <= word.length(); m++) {
                if ((m > 0 || isEmpty(s)) && (m < word.length() || isEmpty(rest))) {
                    BigInteger behind = count(rest, word.substring(m));
                    if (behind.signum() > 0) {
                        sum = sum.add(behind.multiply(countOf(s, word.substring(0, m))));
                    }
                }
            }
            counts.put(key, sum);
            return sum;
        }

        BigInteger countOf(char c, String word) {
            String key = c + "! " + word;
            if (!counts.containsKey(key)) {
                BigInteger sum = BigInteger.ZERO;
                for (Production p : now) {
                    if (p.left == c) {
                        sum = sum.add(count(p.right, word));
                    }
                }
                counts.put(key, sum);
            }
            return counts.get(key);
        }

        int derivations() {
            if (someReachable(5)) {
                return -2;
            }
            if (inputFault() >= 0) {
                return -100 - inputFault();
            }
            return countOf(now.get(0).left, text).min(MOST).intValue();
        }

        int step(int j, int i) {
            if (j < 0 || j > 1 || i < 0 || i > 199) {
                return -1;
            }
            int total = derivations();
            if (total < 0) {
                return total;
            }
            if (listed == null) {
                listed = new ArrayList<>();
                Map<Character, Integer> least = new HashMap<>();
                for (char c = 'A'; c <= 'F'; c++) {
                    least.put(c, fewest(c));
                }
                nodes = 0;
                list("" + now.get(0).left, text, new ArrayList<>(), least);
                if (nodes < 100000 && listed.size() != Math.min(2, total)) {
                    throw new IllegalStateException("the model is at odds with itself");
                }
                see(nodes < 100000 ? "listed" : "not listed");
            }
            if (nodes >= 100000) {
                return byCounts(j, i);
            }
            return j < listed.size() && i < listed.get(j).size() ? listed.get(j).get(i) : -9;
        }

        int nodes = 0;

        /** Tries all derivations in their order until two are found; gives up after many nodes. */
        void list(String form, String rest, List<Integer> steps, Map<Character, Integer> least) {
            nodes++;
            int need = 0;
            for (char c : form.toCharArray()) {
                int own = c >= 'a' ? 1 : least.get(c);
                if (own < 0) {
                    return;
                }
                need += own;
            }
            if (need > rest.length() || listed.size() == 2 || nodes > 100000) {
                return;
            }
            if (form.isEmpty()) {
                if (rest.isEmpty()) {
                    listed.add(new ArrayList<>(steps));
                }
                return;
            }
            char top = form.charAt(0);
            if (top >= 'a') {
                if (rest.charAt(0) == top) {
                    list(form.substring(1), rest.substring(1), steps, least);
                }
                return;
            }
            for (int p : of(top - 'A')) {
                steps.add(p);
                list(now.get(p).right + form.substring(1), rest, steps, least);
                steps.remove(steps.size() - 1);
            }
        }

        int byCounts(int j, int i) {
            if (countOf(now.get(0).left, text).compareTo(BigInteger.valueOf(j)) <= 0) {
                return -9;
            }
            String form = "" + now.get(0).left;
            String rest = text;
            BigInteger skip = BigInteger.valueOf(j);
            for (int n = 0; ; n++) {
                while (!form.isEmpty() && form.charAt(0) >= 'a') {
                    form = form.substring(1);
                    rest = rest.substring(1);
                }
                if (form.isEmpty()) {
                    return -9;
                }
                for (int p : of(form.charAt(0) - 'A')) {
                    BigInteger here = count(now.get(p).right + form.substring(1), rest);
                    if (skip.compareTo(here) < 0) {
                        if (n == i) {
                            return p;
                        }
                        form = now.get(p).right + form.substring(1);
                        break;
                    }
                    skip = skip.subtract(here);
                }
            }
        }

        int ambiguous() {
            if (someReachable(5)) {
                return -2;
            }
            for (String w : allWords(4)) {
                if (countOf(now.get(0).left, w).compareTo(BigInteger.ONE) > 0) {
                    return number(w);
                }
            }
            return -9;
        }

        int told(int what) {
            switch (what) {
                case 0:
                    return now.size();
                case 1:
                    return now.get(0).left - 'A';
                case 2:
                    return now.stream().mapToInt(p -> 1 << p.left - 'A').reduce(0, (a, b) -> a | b);
                case 3:
                    return text.length();
                case 4:
                    return remembered.size();
                case 5:
                    return chosen.size();
                default:
                    return -1;
            }
        }

        int undo() {
            if (remembered.isEmpty()) {
                return -2;
            }
            now = remembered.removeLast();
            changed();
            return remembered.size();
        }

        long digest() {
            List<Integer> values = new ArrayList<>();
            for (int what : new int[] {0, 1, 2, 3, 4, 5}) {
                values.add(told(what));
            }
            for (int p = 0; p < now.size(); p++) {
                values.addAll(Arrays.asList(production(p, 0), production(p, 1)));
                for (int i = 0; i < now.get(p).right.length(); i++) {
                    values.add(symbol(p, i));
                }
                values.addAll(Arrays.asList(words(2, p, 0), words(2, p, 1), words(2, p, 2), words(2, p, 3)));
                values.addAll(Arrays.asList(marks(p, 0), marks(p, 1), marks(p, 2)));
            }
            for (int x = 0; x < 6; x++) {
                if (isDefined(x)) {
                    values.add(x);
                    for (int what = 1; what <= 7; what++) {
                        values.add(nonterminal(x, what));
                    }
                    values.addAll(Arrays.asList(words(0, x, 3), words(1, x, 3), depth(x), approximate(x), clash(x, 3)));
                }
            }
            values.addAll(Arrays.asList(deepest(false), deepest(true)));
            values.addAll(chosen);
            values.add(fault);
            long h = 17313;
            for (int v : values) {
                h = 31 * h + v;
            }
            return h;
        }
    }
}

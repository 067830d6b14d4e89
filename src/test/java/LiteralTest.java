import java.util.ArrayDeque;
import java.util.ArrayList;
import java.util.HashMap;
import java.util.LinkedHashSet;
import java.util.List;
import java.util.Map;
import java.util.Random;
import java.util.Set;
import java.util.TreeSet;

/**
 * Takes the document's definitions at their word: derives all sequences with few symbols from small random grammars,
 * step by step, and looks there for what the class tells. What is found there has to be told; where each nonterminal
 * uses later ones only, so that all sequences are short, nothing else may be told either.
 */
public final class LiteralTest {
    private static final int RUNS = 250;
    private static final int MOST_LENGTH = 8;
    private static final int MOST_SEQUENCES = 4000;
    private static final List<String> WORDS = words(3);

    private static int wrong = 0;
    private static int found = 0;

    private final String text;
    private final boolean whole;
    private final List<String> lefts = new ArrayList<>();
    private final List<String> rights = new ArrayList<>();
    private LookaheadDepths x = null;

    public static void main(String[] args) {
        int runs = args.length > 0 ? Integer.parseInt(args[0]) : RUNS;
        int seed = args.length > 1 ? Integer.parseInt(args[1]) : 1;
        for (int run = 0; run < runs && wrong < 20; run++) {
            new LiteralTest(new Random(seed * 1000003L + run)).look();
        }
        System.out.println(wrong == 0 ? "all definitions hold at their word, " + found + " times" : wrong + " answers are not as defined");
        if (wrong != 0 || found == 0) {
            System.exit(1);
        }
    }

    private LiteralTest(Random random) {
        whole = random.nextInt(3) > 0;
        int nonterminals = 1 + random.nextInt(3);
        StringBuilder all = new StringBuilder();
        for (int n = 0; n < nonterminals; n++) {
            all.append((char) ('A' + n)).append('=');
            int alternatives = 1 + random.nextInt(3);
            for (int a = 0; a < alternatives; a++) {
                String right = right(random, whole ? n + 1 : 0, nonterminals);
                lefts.add("" + (char) ('A' + n));
                rights.add(right);
                all.append(a == 0 ? "" : "|").append(right);
            }
            all.append(';');
        }
        text = all.toString();
    }

    /** At most two symbols if the grammar is not recursive: then no sequence has more than eight. */
    private static String right(Random random, int from, int nonterminals) {
        StringBuilder right = new StringBuilder();
        int length = random.nextInt(from > 0 ? 3 : 4);
        for (int i = 0; i < length; i++) {
            boolean letter = random.nextBoolean() || from >= nonterminals;
            right.append((char) (letter ? 'a' + random.nextInt(2) : 'A' + from + random.nextInt(nonterminals - from)));
        }
        return right.toString();
    }

    private static List<String> words(int most) {
        List<String> all = new ArrayList<>(List.of(""));
        for (int i = 0; i < all.size(); i++) {
            for (char c = 'a'; all.get(i).length() < most && c <= 'b'; c++) {
                all.add(all.get(i) + c);
            }
        }
        return all;
    }

    private static int number(String word) {
        int number = 0;
        for (char c : word.toCharArray()) {
            number = 6 * number + c - 'a' + 1;
        }
        return number;
    }

    private static String cut(String word, int k) {
        return word.length() <= k ? word : word.substring(0, k);
    }

    private static boolean isWord(String sequence) {
        return sequence.chars().allMatch(c -> c >= 'a');
    }

    private void blame(String what, Object got, Object want) {
        wrong++;
        System.out.println(text + " " + what + " answered " + got + ", due is " + want);
    }

    private void due(String what, int got, int want) {
        found++;
        if (got != want) {
            blame(what, got, want);
        }
    }

    /** What is not found may still hold by a longer sequence, if the grammar has any. */
    private void dueIf(boolean seen, String what, int got) {
        if (seen || whole) {
            due(what, got, seen ? 1 : 0);
        }
    }

    private void write(String bytes) {
        x.clear();
        for (char c : bytes.toCharArray()) {
            x.type(c);
        }
    }

    /** Goes on with a new object, as one is promised for 512 calls only. */
    private void renew() {
        x = new LookaheadDepths();
        write(text);
        due("load()", x.load(), rights.size());
    }

    private void look() {
        Set<String> sequences = derived("A", true);
        for (String left : new TreeSet<>(lefts)) {
            renew();
            lookAtNonterminal(left, sequences);
            for (int k = 0; k <= 3; k++) {
                renew();
                lookAtWords(left, k, sequences);
            }
        }
        if (whole) {
            lookAtDerivations();
        }
    }

    /** What is derived by steps that replace any nonterminal, and the sequence itself if no step is needed. */
    private Set<String> derived(String from, boolean withoutStep) {
        Set<String> seen = new LinkedHashSet<>();
        ArrayDeque<String> open = new ArrayDeque<>(List.of(from));
        if (withoutStep) {
            seen.add(from);
        }
        while (!open.isEmpty() && (whole || seen.size() < MOST_SEQUENCES)) {
            String now = open.removeFirst();
            for (int i = 0; i < now.length(); i++) {
                for (int p = 0; p < rights.size(); p++) {
                    if (now.startsWith(lefts.get(p), i)) {
                        String next = now.substring(0, i) + rights.get(p) + now.substring(i + 1);
                        if (next.length() <= MOST_LENGTH && seen.add(next)) {
                            open.add(next);
                        }
                    }
                }
            }
        }
        return seen;
    }

    private void lookAtNonterminal(String left, Set<String> sequences) {
        int n = left.charAt(0) - 'A';
        Set<String> own = derived(left, false);
        dueIf(own.contains(""), left + " empty", x.nonterminal(n, 1));
        dueIf(own.stream().anyMatch(LiteralTest::isWord), left + " productive", x.nonterminal(n, 2));
        dueIf(sequences.stream().anyMatch(s -> s.contains(left)), left + " reachable", x.nonterminal(n, 3));
        dueIf(own.stream().anyMatch(s -> s.startsWith(left)), left + " recursive", x.nonterminal(n, 4));
        dueIf(own.contains(left), left + " cyclic", x.nonterminal(n, 5));
        if (whole) {
            int fewest = own.stream().filter(LiteralTest::isWord).mapToInt(String::length).min().orElse(-9);
            due(left + " fewest", x.nonterminal(n, 7), fewest);
        }
    }

    private void lookAtWords(String left, int k, Set<String> sequences) {
        int n = left.charAt(0) - 'A';
        Set<String> firsts = beginnings(derived(left, false), k);
        Set<String> follows = new TreeSet<>();
        for (String s : sequences) {
            for (int i = 0; i < s.length(); i++) {
                if (s.startsWith(left, i) && isWord(s.substring(i + 1))) {
                    follows.add(cut(s.substring(i + 1), k));
                }
            }
        }
        dueWords(firsts, left + " first by " + k, 0, n, k);
        dueWords(follows, left + " follow by " + k, 1, n, k);
        for (int p = 0; p < rights.size(); p++) {
            if (lefts.get(p).equals(left)) {
                Set<String> aheads = new TreeSet<>();
                for (String front : beginnings(derived(rights.get(p), true), MOST_LENGTH)) {
                    follows.forEach(back -> aheads.add(cut(front + back, k)));
                }
                dueWords(aheads, "ahead of " + p + " by " + k, 2, p, k);
            }
        }
    }

    private static Set<String> beginnings(Set<String> sequences, int k) {
        Set<String> cuts = new TreeSet<>();
        sequences.stream().filter(LiteralTest::isWord).forEach(s -> cuts.add(cut(s, k)));
        return cuts;
    }

    private void dueWords(Set<String> seen, String what, int kind, int n, int k) {
        for (String word : WORDS) {
            if (word.length() <= k) {
                int w = number(word);
                int got = kind == 0 ? x.first(n, k, w) : kind == 1 ? x.follow(n, k, w) : x.ahead(n, k, w);
                dueIf(seen.contains(word), what + " of " + word, got);
            }
        }
        if (whole) {
            due("number of " + what, x.words(kind, n, k), seen.size());
        }
    }

    /** All derivations of all words, each word's in their order. */
    private void lookAtDerivations() {
        Map<String, List<List<Integer>>> all = new HashMap<>();
        derive("A", new ArrayList<>(), all);
        int ambiguous = -9;
        for (String word : words(4)) {
            List<List<Integer>> own = all.getOrDefault(word, List.of());
            if (ambiguous == -9 && own.size() > 1) {
                ambiguous = number(word);
            }
            renew();
            write(word);
            due("derivations() of " + word, x.derivations(), own.size());
            for (int j = 0; j <= 1; j++) {
                for (int i = 0; i < 8; i++) {
                    boolean told = j < own.size() && i < own.get(j).size();
                    due("step(" + j + ", " + i + ") of " + word, x.step(j, i), told ? own.get(j).get(i) : -9);
                }
            }
        }
        renew();
        due("ambiguous()", x.ambiguous(), ambiguous);
    }

    private void derive(String sequence, List<Integer> steps, Map<String, List<List<Integer>>> all) {
        int at = 0;
        while (at < sequence.length() && sequence.charAt(at) >= 'a') {
            at++;
        }
        if (at == sequence.length()) {
            all.computeIfAbsent(sequence, s -> new ArrayList<>()).add(new ArrayList<>(steps));
            return;
        }
        for (int p = 0; p < rights.size(); p++) {
            if (sequence.startsWith(lefts.get(p), at)) {
                steps.add(p);
                derive(sequence.substring(0, at) + rights.get(p) + sequence.substring(at + 1), steps, all);
                steps.remove(steps.size() - 1);
            }
        }
    }
}

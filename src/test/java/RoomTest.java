import java.lang.management.ManagementFactory;

/** All calls of a run live in one room: calls must make no objects, and a new object must be small. */
public final class RoomTest {
    private static final com.sun.management.ThreadMXBean ROOM =
        (com.sun.management.ThreadMXBean) ManagementFactory.getThreadMXBean();
    private static long sum = 0;

    public static void main(String[] args) {
        String[] texts = {"A=BBBBB;B=CCCCC;C=DDDDD;D=EEEEE;E=FFFFF;F=|a;", "aab", "A=AA|a|b|c|d|e;", "abcdeabc",
            "A=aAb|;", "aabb", "A=B;", "A=aB|bBa;B=C;C=a|;", "bad!"};
        for (int i = 0; i < 20; i++) {
            use(new LookaheadDepths(), texts);
        }
        int wrong = 0;
        long before = used();
        LookaheadDepths x = new LookaheadDepths();
        long made = used() - before;
        before = used();
        use(x, texts);
        long more = used() - before;
        if (made > 200000) {
            wrong++;
            System.out.println("a new object takes " + made + " bytes");
        }
        if (more > 4000) {
            wrong++;
            System.out.println("calls take " + more + " bytes");
        }
        System.out.println(wrong == 0 ? "the room is kept small (" + made + " bytes an object, " + sum % 10 + ")" : "too much room");
        if (wrong != 0) {
            System.exit(1);
        }
    }

    private static long used() {
        return ROOM.getThreadAllocatedBytes(Thread.currentThread().getId());
    }

    private static void use(LookaheadDepths x, String[] texts) {
        for (int t = 0; t < texts.length; t++) {
            String text = texts[t];
            x.clear();
            for (int i = 0; i < text.length(); i++) {
                x.type(text.charAt(i));
            }
            sum += x.load() + x.fault() + x.production(0, 0) + x.symbol(0, 0) + x.nonterminal(0, 7) + x.first(0, 3, 43)
                + x.follow(0, 3, 43) + x.ahead(0, 3, 43) + x.words(2, 0, 3) + x.word(0, 3, 5) + x.marks(0, 2) + x.depth(0)
                + x.approximate(0) + x.deepest(false) + x.deepest(true) + x.clash(0, 3) + x.clashWord(0, 1, 3) + x.parse()
                + x.chosen(0) + x.derivations() + x.step(1, 5) + x.ambiguous() + x.told(2) + x.digest();
        }
        sum += x.undo() + x.digest();
    }
}

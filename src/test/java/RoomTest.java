import java.lang.management.ManagementFactory;

/** A run lives in one room without a broom: a new object stays small, and questions and acts make no objects at all. */
public final class RoomTest {
    private static int wrong = 0;

    private static long made() {
        return ((com.sun.management.ThreadMXBean) ManagementFactory.getThreadMXBean())
                .getThreadAllocatedBytes(Thread.currentThread().getId());
    }

    private static void put(BarPilot b, int[] text) {
        for (int at = 0; at + 4 < text.length; at += 5) {
            b.feed(text[at], text[at + 1], text[at + 2], text[at + 3], text[at + 4]);
        }
    }

    private static int[] packed(String text) {
        int[] row = new int[(text.length() + 19) / 20 * 5];
        for (int i = 0; i < 4 * row.length; i++) {
            row[i / 4] |= (i < text.length() ? text.charAt(i) : ' ') << 24 - 8 * (i % 4);
        }
        return row;
    }

    private static void run(BarPilot b, int[] bar, int[] rule) {
        put(b, rule);
        b.rule();
        put(b, bar);
        b.bar();
        b.force(0);
        for (int i = 0; i < 20; i++) {
            b.tide();
            b.trade(0, 1);
            b.coin(1, i % 4);
            b.say(1, 0);
            b.dull(0);
            b.undo();
            b.undo();
            b.undo();
            b.ahead(0, 60, i % 3);
            b.over(i % 4, 0);
            b.least();
            b.row(i % 4, 3, 0);
            b.forget(30, 0);
            b.barter(30, 0);
            b.school(9, 0);
            b.old(0, 9, 2, 0);
            b.game(1, 2, 3, 0);
            b.order(1);
            b.note(i % 5, 1, i % 4);
            b.ruled(0);
            b.look(5, 0);
            b.parrots(3, 20, 50, 0);
            b.parts(77, 0);
            b.back(i % 2);
            b.image(i % 2);
        }
    }

    private static void atMost(String what, long bytes, long most) {
        System.out.println(what + ": " + bytes + " bytes");
        if (bytes > most) {
            wrong++;
            System.out.println("  more than " + most);
        }
    }

    public static void main(String[] args) {
        int[] bar = packed("bar 4 2;joke 1 1 1;joke 1 1 2;joke 2 2 2;joke 3 3 2;ship 5 9;ship 6 9;ship 7 9;ship 8 9"
                + ";knows 0 0;knows 1 1;knows 2 2;knows 3 0;knows 3 3");
        int[] rule = packed("tell 5-like if fresh=1 and keeps>2;tell since-known");
        run(new BarPilot(), bar, rule);
        made();
        long before = made();
        BarPilot b = new BarPilot();
        long built = made();
        run(b, bar, rule);
        long after = made();
        atMost("a new object", built - before, 16_000);
        // Two images and a rule stay.
        atMost("500 calls", after - built, 16_000);
        if (wrong != 0) {
            System.exit(1);
        }
    }
}

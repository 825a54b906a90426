import java.lang.reflect.Method;
import java.util.Arrays;

/** A BarPilot and a Model that get the same calls; where their answers part, it says which calls led there. */
final class Both {
    static int calls = 0;
    static int wrong = 0;

    final BarPilot pilot = new BarPilot();
    final Model model = new Model();
    private final StringBuilder run = new StringBuilder();

    int call(String name, int... args) {
        int got = ofPilot(name, args);
        int want = ofModel(name, args);
        calls++;
        run.append(name).append(Arrays.toString(args)).append(" = ").append(want).append('\n');
        if (got != want) {
            wrong++;
            if (wrong <= 1) {
                System.out.println(run + "but BarPilot answered " + got + "\n");
            }
        }
        return want;
    }

    private int ofPilot(String name, int[] a) {
        try {
            Class<?>[] types = new Class<?>[a.length];
            Arrays.fill(types, int.class);
            Method m = BarPilot.class.getMethod(name, types);
            Object[] given = new Object[a.length];
            for (int i = 0; i < a.length; i++) {
                given[i] = a[i];
            }
            return (Integer) m.invoke(pilot, given);
        } catch (ReflectiveOperationException e) {
            throw new IllegalStateException(run + name + Arrays.toString(a), e);
        }
    }

    private int ofModel(String name, int[] a) {
        switch (name) {
            case "feed": return model.feed(a);
            case "end": return model.end(a[0]);
            case "bar": return model.bar();
            case "rule": return model.rule();
            case "force": return model.force(a[0]);
            case "joke": return model.joke(a[0], a[1]);
            case "ship": return model.ship(a[0], a[1]);
            case "tide": return model.tide();
            case "say": return model.say(a[0], a[1]);
            case "trade": return model.trade(a[0], a[1]);
            case "coin": return model.coin(a[0], a[1]);
            case "dull": return model.dull(a[0]);
            case "undo": return model.undo();
            case "ahead": return model.ahead(a[0], a[1], a[2]);
            case "over": return model.over(a[0], a[1]);
            case "alike": return model.alike(a[0], a[1]);
            case "fresh": return model.fresh();
            case "least": return model.least();
            case "row": return model.row(a[0], a[1], a[2]);
            case "forget": return model.forget(a[0], a[1]);
            case "barter": return model.barter(a[0], a[1]);
            case "school": return model.school(a[0], a[1]);
            case "old": return model.old(a[0], a[1], a[2], a[3]);
            case "game": return model.game(a[0], a[1], a[2], a[3]);
            case "parts": return model.parts(a[0], a[1]);
            case "order": return model.order(a[0]);
            case "note": return model.note(a[0], a[1], a[2]);
            case "ruled": return model.ruled(a[0]);
            case "look": return model.look(a[0], a[1]);
            case "seed": return model.seed(a[0]);
            case "parrots": return model.parrots(a[0], a[1], a[2], a[3]);
            case "count": return model.count(a[0]);
            case "image": return model.image(a[0]);
            case "back": return model.back(a[0]);
            default: throw new IllegalStateException(name);
        }
    }

    /** Feeds a text of signs 0 to 255 and cuts the tape behind it. */
    void text(String text) {
        run.append("text ").append(text).append('\n');
        int had = model.tape.length;
        for (int at = 0; at < text.length(); at += 20) {
            int[] five = new int[5];
            for (int i = 0; i < 20; i++) {
                int sign = at + i < text.length() ? text.charAt(at + i) & 255 : 0;
                five[i / 4] |= sign << 24 - 8 * (i % 4);
            }
            call("feed", five);
        }
        call("end", Math.min(had + text.length(), model.tape.length));
    }
}

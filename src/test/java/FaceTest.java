import java.io.IOException;
import java.lang.reflect.Field;
import java.lang.reflect.Method;
import java.lang.reflect.Modifier;
import java.nio.file.Files;
import java.nio.file.Path;
import java.util.ArrayList;
import java.util.Collections;
import java.util.List;
import java.util.Random;

/** The public face, the rules of the language that can be looked up, and calls of all sorts that end. */
final class FaceTest {
    public static void main(String[] args) throws Exception {
        constants();
        face();
        source();
        callsAtRandom();
        Check.end();
    }

    private static void constants() {
        Check.due("NONE", -1, StandingUp.NONE);
        Check.due("BAD", -2, StandingUp.BAD);
        Check.due("STATE", -3, StandingUp.STATE);
        Check.due("FULL", -4, StandingUp.FULL);
        Check.due("NO", -(1L << 62), StandingUp.NO);
    }

    private static void face() {
        List<String> publics = new ArrayList<>();
        List<String> privates = new ArrayList<>();
        for (Method m : StandingUp.class.getDeclaredMethods()) {
            boolean open = Modifier.isPublic(m.getModifiers());
            (open ? publics : privates).add(m.getName());
            Check.due("is public or private: " + m, 1, open || Modifier.isPrivate(m.getModifiers()) ? 1 : 0);
            Check.due("at most seven parameters: " + m, 1, m.getParameterCount() <= 7 ? 1 : 0);
        }
        Collections.sort(publics);
        String due = "[back, box, bridge, cell, copy, count, crossing, feed, fog, foot, force, heir, ill, image, judge, "
            + "load, lost, open, path, rowed, rower, rowers, set, shares, sheet, taken, takes, text, told, turn, waits]";
        Check.due("the face: " + publics, 1, publics.toString().equals(due) ? 1 : 0);
        for (String name : privates) {
            Check.due("no private method is named as a public one: " + name, 0, publics.contains(name) ? 1 : 0);
        }
        for (Field f : StandingUp.class.getDeclaredFields()) {
            boolean constant = "NONE BAD STATE FULL NO".contains(f.getName());
            int wanted = constant ? Modifier.PUBLIC | Modifier.STATIC | Modifier.FINAL : Modifier.PRIVATE;
            Check.due("modifiers of " + f, wanted, f.getModifiers() & wanted);
        }
        Class<?>[] inside = StandingUp.class.getDeclaredClasses();
        Check.due("some twelve classes", 1, inside.length <= 11 ? 1 : 0);
        for (Class<?> c : inside) {
            Check.due("static: " + c, 1, Modifier.isStatic(c.getModifiers()) ? 1 : 0);
            Check.due("not public: " + c, 0, Modifier.isPublic(c.getModifiers()) ? 1 : 0);
            for (Method m : c.getDeclaredMethods()) {
                Check.due("not named as a public one: " + m, 0, publics.contains(m.getName()) ? 1 : 0);
            }
        }
    }

    private static void source() throws IOException {
        Path file = Path.of("src/main/java/StandingUp.java");
        String text = Files.readString(file);
        String[] not = {"throw", "try", "catch", "synchronized", "assert", "->", "::", "@", "package ", "System.out",
            "System.nano", "System.current", "Random", "Thread", "hashCode", "toString", "double", "float", "Exact"};
        for (String word : not) {
            Check.due("the program has no " + word, -1, text.indexOf(word));
        }
        for (int i = 0; i < text.length(); i++) {
            if (text.charAt(i) > 126) {
                Check.due("a sign above 126 at " + i, 0, 1);
            }
        }
    }

    private static int some(Random r) {
        switch (r.nextInt(8)) {
            case 0: return r.nextInt();
            case 1: return Integer.MAX_VALUE - r.nextInt(3);
            case 2: return Integer.MIN_VALUE + r.nextInt(3);
            case 3: return r.nextInt(10000);
            case 4: return r.nextInt(700) - 20;
            default: return r.nextInt(24) - 2;
        }
    }

    private static int rightRest(Random r) {
        return r.nextInt(3) == 0 ? some(r) : 1400 + r.nextInt(7000) / 10 * 10 + r.nextInt(3);
    }

    /** No call may throw: an object takes 512 calls of all sorts. */
    private static void callsAtRandom() {
        Random r = new Random(23);
        String tokens = "load price turn heads tide wash age hour turns or and not ( ) ; + - * < = 1 22 9999 12345 x ?";
        String[] words = tokens.split(" ");
        for (int run = 0; run < 400; run++) {
            StandingUp x = Check.withCrossings(run % 4);
            for (int call = 0; call < 512 - 4; call++) {
                if (call % 16 == 0) {
                    Check.feed(x, words[r.nextInt(words.length)] + " ");
                } else {
                    ask(x, r);
                }
            }
        }
        Check.due("no call threw", 0, 0);
    }

    private static void ask(StandingUp x, Random r) {
        int a = some(r), b = some(r), c = some(r), d = some(r), e = some(r);
        switch (r.nextInt(33)) {
            case 0: x.crossing(a, b); break;
            case 1: x.set(a, b); break;
            case 2: case 31: case 32: x.rower(a, rightRest(r), c); break;
            case 3: x.ill(a, b); break;
            case 4: x.told(a, b, c); break;
            case 5: x.feed(a, r.nextLong()); break;
            case 6: x.text(); break;
            case 7: x.force(a); break;
            case 8: x.load(a, b, c); break;
            case 9: x.takes(a, b); break;
            case 10: x.waits(a, b, c, d); break;
            case 11: x.turn(a, b); break;
            case 12: x.rowed(a, b); break;
            case 13: x.judge(a, b); break;
            case 14: x.heir(a, b); break;
            case 15: x.open(a, b); break;
            case 16: x.path(a, b); break;
            case 17: x.foot(a); break;
            case 18: x.lost(a); break;
            case 19: x.fog(a, b, c, d); break;
            case 20: x.box(a, b, c, d); break;
            case 21: x.shares(a, b, c); break;
            case 22: x.bridge(a, b); break;
            case 23: x.image(); break;
            case 24: x.back(); break;
            case 25: x.count(a); break;
            case 26: x.sheet(a, b, c); break;
            case 27: x.cell(a, b, c); break;
            case 28: x.copy(a, b, c, d, e); break;
            case 29: x.rowers(a, b, c, d); break;
            default: x.taken(a, b); break;
        }
    }
}

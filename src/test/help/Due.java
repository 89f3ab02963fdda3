/** What the tests of the document's edges share: sentences of the document, and the answers that are due by them. */
final class Due {
    static final int NONE = -1, BAD = -2, NOT = -3, FULL = -4;
    static final int NULL = -11, INDEX = -12, CAST = -13, STORE = -14, SIZE = -15;
    static final int LEAST = Integer.MIN_VALUE, MOST = Integer.MAX_VALUE;
    static final int WAITS = 0, GOES = 1, FELL = 2, BROKEN = 3, FADED = 4;
    static final int N = 0, E = 1, S = 2, W = 3;

    private static String sentence = "";
    private static int sentences = 0, answers = 0, wrong = 0;

    private Due() {
    }

    /** From here on the answers belong to these words of the document. */
    static void sentence(String words) {
        sentence = words;
        sentences++;
    }

    static void due(String call, long got, long want) {
        answers++;
        if (got != want) {
            wrong++;
            if (wrong <= 40) {
                System.out.println("\"" + sentence + "\": " + call + " answered " + got + ", due is " + want);
            }
        }
    }

    static void type(SmokeRings x, int text, String s) {
        for (int i = 0; i < s.length(); i++) {
            x.type(text, s.charAt(i));
        }
    }

    static void retype(SmokeRings x, int text, String s) {
        x.wipe(text);
        type(x, text, s);
    }

    static SmokeRings with(String valley, String things, String wind, int[]... rings) {
        SmokeRings x = new SmokeRings();
        type(x, 0, valley);
        type(x, 1, things);
        type(x, 2, wind);
        for (int[] r : rings) {
            x.blow(r[0], r[1], r[2], r[3], r[4]);
        }
        return x;
    }

    /** Blown in a step, from a cell, a way, with a breath, by whom. */
    static int[] blown(int step, int cell, int way, int breath, int whom) {
        return new int[] {step, cell, way, breath, whom};
    }

    /** What a ring is, its cell, its width, its breath left, behind a step. */
    static void dueAt(SmokeRings x, int step, int ring, int... look) {
        for (int what = 0; what < 4; what++) {
            due("at(" + step + ", " + ring + ", " + what + ")", x.at(step, ring, what), look[what]);
        }
    }

    /** By which ring, in which step, to whom a thing is bound. */
    static void dueBound(SmokeRings x, int thing, int... bound) {
        for (int what = 0; what < 3; what++) {
            due("bound(" + thing + ", " + what + ")", x.bound(thing, what), bound[what]);
        }
    }

    static void dueUnbound(SmokeRings x, int thing) {
        dueBound(x, thing, NONE, NONE, NONE);
    }

    static void dueItems(SmokeRings x, int s, int form, int... items) {
        for (int i = 0; i < items.length; i++) {
            due("get(" + s + ", " + form + ", " + i + ")", x.get(s, form, i), items[i]);
        }
    }

    static void fill(SmokeRings x, int s, int form, int... items) {
        x.sheet(s, form, items.length);
        for (int i = 0; i < items.length; i++) {
            x.lay(s, form, i, items[i]);
        }
    }

    /** The same thing, so many times. */
    static String things(int n, String thing) {
        return (thing + ";").repeat(n).substring(0, n * 5 - (n > 0 ? 1 : 0));
    }

    static void finish() {
        System.out.println(sentences + " sentences, " + answers + " answers, " + wrong + " not as due");
        if (wrong != 0) {
            System.exit(1);
        }
    }
}

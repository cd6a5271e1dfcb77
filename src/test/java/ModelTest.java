import java.util.Random;

/** Runs of calls by chance, always the same ones, on LineColours and on the plain model side by side. */
public final class ModelTest {
    private static final int RUNS = 700;
    private static final int CALLS = 480;
    private static final int NAMES = 41;

    private final Check check = new Check();
    private final Random chance;
    private LineColours real;
    private Plain plain;
    private int tooHard = 0;

    private ModelTest(long seed) {
        chance = new Random(seed);
    }

    public static void main(String[] args) {
        ModelTest test = new ModelTest(args.length > 0 ? Long.parseLong(args[0]) : 20261117L);
        for (int run = 0; run < RUNS; run++) {
            test.run(run);
        }
        System.out.println("too hard for the model: " + test.tooHard);
        test.check.end();
    }

    private void run(int run) {
        real = new LineColours();
        plain = new Plain();
        int before = check.wrong();
        StringBuilder told = new StringBuilder();
        int n = 2 + chance.nextInt(8);
        int wanted = Math.min(n * (n - 1) / 2, chance.nextInt(3) == 0 ? 20 : 1 + chance.nextInt(12));
        int twoSides = chance.nextInt(2);
        call("begin", new int[] {n}, told);
        for (int call = 1; call < CALLS && check.wrong() == before; call++) {
            if (plain.lines() < wanted && chance.nextInt(3) > 0) {
                int a = chance.nextInt(n);
                int b = chance.nextInt(n);
                if (twoSides == 0 || (a + b) % 2 == 1) {
                    call("line", new int[] {a, b}, told);
                }
            } else {
                callByChance(told);
            }
        }
        if (check.wrong() != before) {
            System.out.println("run " + run + ":" + told);
        }
    }

    private int some(int least, int most) {
        if (chance.nextInt(60) == 0) {
            return chance.nextBoolean() ? Integer.MIN_VALUE + chance.nextInt(40) : Integer.MAX_VALUE - chance.nextInt(40);
        }
        return least + chance.nextInt(most - least + 1);
    }

    private int what(int most) {
        return some(chance.nextInt(6) == 0 ? -2 : 0, chance.nextInt(6) == 0 ? most + 2 : most);
    }

    private int aPost() {
        return what(Math.max(0, plain.count(0) - 1));
    }

    private int aLine() {
        return what(Math.max(0, plain.lines() - 1));
    }

    private int aColour() {
        return what(plain.degree());
    }

    private void callByChance(StringBuilder told) {
        switch (chance.nextInt(NAMES + 9)) {
            case 0: if (chance.nextInt(40) == 0) call("begin", new int[] {what(10)}, told); break;
            case 1: call("line", new int[] {aPost(), aPost()}, told); break;
            case 2: case 41: case 42: case 43: call("paint", new int[] {aLine(), aColour()}, told); break;
            case 3: case 44: call("bare", new int[] {aLine()}, told); break;
            case 4: call("turn", new int[] {aPost(), aColour(), aColour()}, told); break;
            case 5: call("swap", new int[] {aColour(), aColour()}, told); break;
            case 6: case 45: case 46: call("grow", new int[] {aLine()}, told); break;
            case 7: call("growAll", new int[0], told); break;
            case 8: if (chance.nextInt(3) == 0) call("pair", new int[0], told); break;
            case 9: if (chance.nextInt(3) == 0) call("even", new int[0], told); break;
            case 10: if (chance.nextInt(3) == 0) call("take", new int[] {what(plain.degree() + 1)}, told); break;
            case 11: call("keep", new int[0], told); break;
            case 12: if (chance.nextInt(3) == 0) call("back", new int[0], told); break;
            case 13: call("grown", new int[] {what(4)}, told); break;
            case 14: call("of", new int[] {aLine(), what(3)}, told); break;
            case 15: call("clash", new int[] {aLine(), aColour()}, told); break;
            case 16: call("post", new int[] {aPost(), what(3)}, told); break;
            case 17: call("colour", new int[] {aColour(), what(2)}, told); break;
            case 18: case 47: call("chain", new int[] {aPost(), aColour(), aColour(), what(3)}, told); break;
            case 19: call("idle", new int[] {aPost()}, told); break;
            case 20: call("calmer", new int[] {what(2)}, told); break;
            case 21: case 48: call("fan", new int[] {aLine(), aPost(), some(-2, 5)}, told); break;
            case 22: call("index", new int[0], told); break;
            case 23: case 49: call("first", new int[] {what(9), aLine()}, told); break;
            case 24: call("overfull", new int[] {what(2)}, told); break;
            case 25: call("refused", new int[] {what(9), what(1)}, told); break;
            case 26: call("list", new int[] {aLine(), chance.nextInt(3) == 0 ? what(511) : what(15)}, told); break;
            case 27: call("listed", new int[] {aLine()}, told); break;
            case 28: call("free", new int[] {aLine()}, told); break;
            case 29: call("longest", new int[] {what(3)}, told); break;
            case 30: call("sets", new int[] {what(4)}, told); break;
            case 31: if (chance.nextInt(10) == 0) call("critical", new int[0], told); break;
            case 32: if (chance.nextInt(30) == 0) call("kinds", new int[] {what(4)}, told); break;
            case 33: if (chance.nextInt(4) == 0) call("turns", new int[] {what(4)}, told); break;
            case 34: call("chains", new int[] {aColour(), aColour()}, told); break;
            case 35: call("sides", new int[] {what(2)}, told); break;
            case 36: call("apart", new int[] {what(1)}, told); break;
            case 37: call("ways", new int[] {what(9)}, told); break;
            case 38: case 39: call("unlike", new int[] {what(1)}, told); break;
            default: call("count", new int[] {what(7)}, told); break;
        }
    }

    private void call(String name, int[] a, StringBuilder told) {
        StringBuilder asked = new StringBuilder(name).append('(');
        for (int i = 0; i < a.length; i++) {
            asked.append(i == 0 ? "" : ", ").append(a[i]);
        }
        asked.append(')');
        long want;
        try {
            want = Calls.onPlain(plain, name, a);
        } catch (Plain.TooHard e) {
            tooHard++;
            return;
        }
        told.append(' ').append(asked).append('=').append(want);
        check.due(asked.toString(), Calls.onReal(real, name, a), want);
    }
}

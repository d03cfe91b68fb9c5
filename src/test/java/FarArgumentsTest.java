import java.util.Arrays;

/**
 * Any arguments in any state: numbers around every bound of the document, and far below 0 and far above all,
 * for one argument of each call or for two at once, in an empty house, in one that has begun and in a full one.
 */
public final class FarArgumentsTest {
    private static final Check check = new Check();
    private static final int CALLS = 512;

    private static final int[] MANY = {
        Integer.MIN_VALUE, Integer.MIN_VALUE + 1, Integer.MIN_VALUE + 8, -1073741824, -65536, -2001, -1024, -257, -256,
        -101, -64, -41, -40, -33, -32, -31, -10, -9, -8, -7, -6, -2, -1, 0, 1, 2, 3, 4, 5, 6, 7, 8, 9, 10, 11, 15, 16,
        30, 31, 32, 33, 39, 40, 41, 60, 63, 64, 65, 99, 100, 101, 127, 128, 254, 255, 256, 257, 511, 512, 1022, 1023,
        1024, 1025, 1999, 2000, 2001, 4999, 5000, 5001, 65535, 65536, 65537, 16777216, 1073741824, 2147483640,
        Integer.MAX_VALUE - 1, Integer.MAX_VALUE,
    };
    private static final int[] SOME = {
        Integer.MIN_VALUE, Integer.MIN_VALUE + 1, -256, -32, -1, 0, 1, 6, 7, 8, 10, 32, 40, 256, 5001, 1073741824,
        Integer.MAX_VALUE,
    };

    /** Each call with arguments that are good in a house that has begun. */
    private static final String[] CALLS_TO_TRY = {
        "offence 1 5 100", "exclude 0 1", "pass 1", "file 0 1 0", "item 0 0 1 1 0 0", "admit 1", "show 2 1",
        "withhold 2", "charge 0 0 1", "drop 0 0", "review 0 3", "trial 0 1", "plea 0 1 1", "arrest 0 0", "extend 0 0 1",
        "release 0 2", "day", "nests 0 1", "strength 0 0 0 1", "whyNot 0 0 0 1", "best 0 0 1", "bestAnew 0 0 1",
        "lacks 0 0", "ofItem 0 0", "ofAccused 0 0 0", "count 0",
    };

    private static final String[] BEGUN = {
        "offence 1 5 2000", "offence 3 4 2000", "file 0 255 0", "item 0 0 9 255 0 0", "item 0 1 9 15 1 0",
        "item 0 2 -3 2 0 1", "pass 2", "charge 0 1 1", "show 2 1", "arrest 0 2", "drop 0 3",
    };

    private final String[] begin;
    private Chargehouse house;
    private DiaryHouse diary;
    private int calls;

    public static void main(String[] args) {
        new FarArgumentsTest(new String[0]).triesAll("empty");
        new FarArgumentsTest(BEGUN).triesAll("begun");
        new FarArgumentsTest(full()).triesAll("full");
        check.report("FarArgumentsTest");
    }

    private FarArgumentsTest(String[] begin) {
        this.begin = begin;
        beginAnew();
    }

    /** Eight offences, six files, forty items and the day 5000. */
    private static String[] full() {
        StringBuilder told = new StringBuilder();
        for (int number = 0; number < 8; number++) {
            told.append("offence ").append(1 << number).append(" 5 2000;");
        }
        told.append("pass 100;".repeat(49)).append("pass 98;");
        told.append("file 4990 255 0;".repeat(6));
        for (int number = 0; number < 40; number++) {
            told.append("item ").append(number % 6).append(" ").append(number / 6).append(number % 5 == 4 ? " -1" : " 9")
                .append(" 255 ").append(number % 3).append(" ").append(number % 2).append(";");
        }
        told.append("charge 0 1 1;arrest 0 2;drop 0 3;charge 0 4 1;plea 0 4 1;arrest 0 1;pass 2");
        return told.toString().split(";");
    }

    /** An object is used for 512 calls at most. */
    private void beginAnew() {
        house = new Chargehouse();
        diary = new DiaryHouse();
        calls = begin.length;
        for (String line : begin) {
            String[] words = line.split(" ");
            int[] a = Calls.argumentsOf(words);
            check.note("to begin, " + line, diary.outcome(words[0], a), Calls.outcome(house, words[0], a));
        }
    }

    private void triesAll(String state) {
        for (String line : CALLS_TO_TRY) {
            String[] words = line.split(" ");
            int[] good = Calls.argumentsOf(words);
            tries(state, words[0], good);
            for (int one = 0; one < good.length; one++) {
                triesOne(state, words[0], good, one);
                for (int two = 0; two < one; two++) {
                    triesTwo(state, words[0], good, one, two);
                }
            }
        }
    }

    private void triesOne(String state, String name, int[] good, int one) {
        for (int value : MANY) {
            int[] a = good.clone();
            a[one] = value;
            tries(state, name, a);
        }
    }

    private void triesTwo(String state, String name, int[] good, int one, int two) {
        for (int value : SOME) {
            for (int other : SOME) {
                int[] a = good.clone();
                a[one] = value;
                a[two] = other;
                tries(state, name, a);
            }
        }
    }

    /** A call that was not refused may have changed something, so that the next one begins anew. */
    private void tries(String state, String name, int[] a) {
        String due = diary.outcome(name, a);
        check.note(state + ", " + name + Arrays.toString(a), due, Calls.outcome(house, name, a));
        calls++;
        if (!due.startsWith("java.") || calls == CALLS) {
            beginAnew();
        }
    }
}

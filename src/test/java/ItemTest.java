/** Promises 6 to 9, 20, 24 and 25: items, what counts of them, and who lacks them. */
public final class ItemTest {
    private static final Check check = new Check();

    public static void main(String[] args) {
        wrongItems();
        everythingOfAnItem();
        fortyItems();
        admitting();
        strengths();
        wrongStrengths();
        showing();
        withholding();
        lacking();
        check.report("ItemTest");
    }

    private static int item(Chargehouse x, int file, int element, int weight, int against) {
        return x.item(file, element, weight, against, Chargehouse.LAWFULLY, false);
    }

    private static void wrongItems() {
        Chargehouse x = new Chargehouse();
        check.fails("6: no file yet", Check.INDEX, () -> item(x, 0, 0, 1, 1));
        x.file(0, 0b10101, 0);
        check.fails("6: a file below 0", Check.INDEX, () -> item(x, -1, 0, 1, 1));
        check.fails("6: no such file", Check.INDEX, () -> item(x, 1, 0, 1, 1));
        check.fails("6: no file 6", Check.INDEX, () -> item(x, 6, 0, 1, 1));
        check.fails("6: an element below 0", Check.INDEX, () -> item(x, 0, -1, 1, 1));
        check.fails("6: an element 10", Check.INDEX, () -> item(x, 0, 10, 1, 1));
        check.fails("6: no such file, and no weight", Check.INDEX, () -> item(x, 1, 0, 0, 1));
        check.fails("6: no such element, and no weight", Check.INDEX, () -> item(x, 0, 10, 0, 1));
        check.fails("6: no weight", Check.ARGUMENT, () -> item(x, 0, 0, 0, 1));
        check.fails("6: weight 10", Check.ARGUMENT, () -> item(x, 0, 0, 10, 1));
        check.fails("6: weight -10", Check.ARGUMENT, () -> item(x, 0, 0, -10, 1));
        check.fails("6: against nobody", Check.ARGUMENT, () -> item(x, 0, 0, 1, 0));
        check.fails("6: against one not accused", Check.ARGUMENT, () -> item(x, 0, 0, 1, 0b10));
        check.fails("6: against one not accused too", Check.ARGUMENT, () -> item(x, 0, 0, 1, 0b11));
        check.fails("6: against a person 8", Check.ARGUMENT, () -> item(x, 0, 0, 1, 257));
        check.fails("6: against below 0", Check.ARGUMENT, () -> item(x, 0, 0, 1, -1));
        check.fails("6: how below 0", Check.ARGUMENT, () -> x.item(0, 0, 1, 1, -1, false));
        check.fails("6: how 3", Check.ARGUMENT, () -> x.item(0, 0, 1, 1, 3, false));
        check.fails("6: none came", Check.INDEX, () -> x.ofItem(0, 0));
        check.is("6: the first number", 0, item(x, 0, 9, -9, 0b10101));
        check.is("6: the next number", 1, x.item(0, 0, 9, 0b10000, Chargehouse.FORCE, true));
    }

    private static void everythingOfAnItem() {
        Chargehouse x = new Chargehouse();
        x.file(0, 1, 0);
        x.file(0, 0b1101, 0);
        x.pass(5);
        int it = x.item(1, 7, -4, 0b1100, Chargehouse.UNWARRANTED, true);
        int[] fresh = {1, 7, -4, 0b1100, 5, Chargehouse.NONE, 0, 0};
        tells(x, "25: fresh", it, fresh);
        x.pass(2);
        x.admit(it);
        x.show(it, 3);
        int[] shown = {1, 7, -4, 0b1100, 5, 7, 0b1000, 0};
        tells(x, "25: admitted and shown", it, shown);
        x.pass(1);
        x.show(it, 2);
        x.withhold(it);
        int[] withheld = {1, 7, -4, 0b1100, 5, 7, 0b1100, 1};
        tells(x, "25: shown to both and withheld", it, withheld);
        check.fails("25: what below 0", Check.ARGUMENT, () -> x.ofItem(it, -1));
        check.fails("25: what 8", Check.ARGUMENT, () -> x.ofItem(it, 8));
        check.fails("25: no such item", Check.INDEX, () -> x.ofItem(1, 0));
        check.fails("25: an item below 0", Check.INDEX, () -> x.ofItem(-1, 0));
        check.fails("25: an item 40", Check.INDEX, () -> x.ofItem(40, 0));
        check.fails("25: an item 41", Check.INDEX, () -> x.ofItem(41, 0));
        check.fails("25: an item far above", Check.INDEX, () -> x.ofItem(Integer.MAX_VALUE, 0));
        check.fails("25: an item far below", Check.INDEX, () -> x.ofItem(Integer.MIN_VALUE, 0));
        check.fails("25: no such item, and what 8", Check.INDEX, () -> x.ofItem(1, 8));
    }

    private static void tells(Chargehouse x, String what, int item, int[] due) {
        for (int k = 0; k < due.length; k++) {
            check.is(what + " " + k, due[k], x.ofItem(item, k));
        }
    }

    private static void fortyItems() {
        Chargehouse x = new Chargehouse();
        x.file(0, 1, 0);
        x.file(0, 2, 0);
        for (int number = 0; number < 40; number++) {
            check.is("6: its number", number, item(x, number % 2, 0, 1, 1 + number % 2));
        }
        check.fails("6: one more", Check.STATE, () -> item(x, 0, 0, 1, 1));
        check.fails("6: one more, out of range", Check.ARGUMENT, () -> item(x, 0, 0, 0, 1));
        check.fails("6: one more of no file", Check.INDEX, () -> item(x, 2, 0, 1, 1));
        check.is("6: all count", 20, x.strength(0, 0, 0, 0));
        check.is("6: in the other file", 20, x.strength(1, 1, 0, 0));
    }

    private static void admitting() {
        Chargehouse x = new Chargehouse();
        x.file(0, 1, 0);
        item(x, 0, 0, 1, 1);
        x.item(0, 0, 2, 1, Chargehouse.UNWARRANTED, false);
        x.item(0, 0, 4, 1, Chargehouse.FORCE, false);
        check.failsAct("7: no such item", Check.INDEX, () -> x.admit(3));
        check.failsAct("7: an item below 0", Check.INDEX, () -> x.admit(-1));
        check.failsAct("7: an item 40", Check.INDEX, () -> x.admit(40));
        check.failsAct("7: a lawful one", Check.STATE, () -> x.admit(0));
        check.failsAct("7: one by force", Check.STATE, () -> x.admit(2));
        check.is("7: nothing is admitted", Chargehouse.NONE, x.ofItem(0, 5));
        check.is("7: still nothing is admitted", Chargehouse.NONE, x.ofItem(2, 5));
        x.admit(1);
        check.is("7: admitted on day 0", 0, x.ofItem(1, 5));
        x.pass(1);
        check.failsAct("7: once more", Check.STATE, () -> x.admit(1));
        check.is("7: the day stays", 0, x.ofItem(1, 5));
    }

    private static void strengths() {
        Chargehouse x = new Chargehouse();
        x.file(0, 0b11, 0);
        x.file(0, 0b11, 0);
        x.pass(10);
        item(x, 0, 3, 5, 0b11);
        x.item(0, 3, 4, 0b01, Chargehouse.UNWARRANTED, false);
        x.item(0, 3, 9, 0b11, Chargehouse.FORCE, false);
        item(x, 1, 3, 8, 0b11);
        item(x, 0, 4, 7, 0b11);
        x.pass(10);
        item(x, 0, 3, -2, 0b10);
        item(x, 0, 9, 6, 0b01);
        x.pass(10);
        x.admit(1);
        x.pass(1);
        check.is("20: ahead of the first item", 0, x.strength(0, 0, 3, 9));
        check.is("20: on the day it came", 5, x.strength(0, 0, 3, 10));
        check.is("20: of the other one", 5, x.strength(0, 1, 3, 19));
        check.is("20: weakened", 3, x.strength(0, 1, 3, 20));
        check.is("20: not against this one", 5, x.strength(0, 0, 3, 20));
        check.is("20: not admitted yet", 5, x.strength(0, 0, 3, 29));
        check.is("20: on the day of admission", 9, x.strength(0, 0, 3, 30));
        check.is("20: behind it", 9, x.strength(0, 0, 3, 31));
        check.is("20: the other one stays", 3, x.strength(0, 1, 3, 31));
        check.is("20: another file", 8, x.strength(1, 0, 3, 31));
        check.is("20: another element", 7, x.strength(0, 1, 4, 31));
        check.is("20: no item at all", 0, x.strength(0, 1, 0, 31));
        check.is("20: the last element", 6, x.strength(0, 0, 9, 31));
        x.item(0, 3, -6, 0b01, Chargehouse.UNWARRANTED, true);
        check.is("20: one that weakens waits for admission too", 9, x.strength(0, 0, 3, 31));
        x.admit(7);
        check.is("20: and counts then", 3, x.strength(0, 0, 3, 31));
        x.withhold(7);
        x.show(7, 0);
        check.is("20: withheld and shown ones count", 3, x.strength(0, 0, 3, 31));
    }

    private static void wrongStrengths() {
        Chargehouse x = new Chargehouse();
        x.pass(3);
        x.file(0, 0b100, 0);
        check.fails("20: no such file", Check.INDEX, () -> x.strength(1, 2, 0, 0));
        check.fails("20: a file below 0", Check.INDEX, () -> x.strength(-1, 2, 0, 0));
        check.fails("20: not accused", Check.INDEX, () -> x.strength(0, 0, 0, 0));
        check.fails("20: no such person", Check.INDEX, () -> x.strength(0, 8, 0, 0));
        check.fails("20: a person below 0", Check.INDEX, () -> x.strength(0, -1, 0, 0));
        check.fails("20: no element 10", Check.INDEX, () -> x.strength(0, 2, 10, 0));
        check.fails("20: an element below 0", Check.INDEX, () -> x.strength(0, 2, -1, 0));
        check.fails("20: a day below 0", Check.ARGUMENT, () -> x.strength(0, 2, 0, -1));
        check.fails("20: tomorrow", Check.ARGUMENT, () -> x.strength(0, 2, 0, 4));
        check.fails("20: no such file, and tomorrow", Check.INDEX, () -> x.strength(1, 2, 0, 4));
        check.fails("20: no such element, and tomorrow", Check.INDEX, () -> x.strength(0, 2, 10, 4));
        check.is("20: today", 0, x.strength(0, 2, 0, 3));
    }

    private static void showing() {
        Chargehouse x = new Chargehouse();
        x.file(0, 0b1011, 0);
        item(x, 0, 0, -1, 0b0011);
        x.item(0, 1, -2, 0b0001, Chargehouse.FORCE, true);
        item(x, 0, 2, 9, 0b0011);
        check.fails("8: no such item", Check.INDEX, () -> x.show(3, 0));
        check.fails("8: an item below 0", Check.INDEX, () -> x.show(-1, 0));
        check.fails("8: an item 40", Check.INDEX, () -> x.show(40, 0));
        check.fails("8: no such person", Check.INDEX, () -> x.show(0, 8));
        check.fails("8: a person below 0", Check.INDEX, () -> x.show(0, -1));
        check.fails("8: a person far below 0", Check.INDEX, () -> x.show(0, -32));
        check.fails("8: a person far above all", Check.INDEX, () -> x.show(0, 32));
        check.fails("8: accused, not against that one", Check.STATE, () -> x.show(0, 3));
        check.fails("8: not accused", Check.STATE, () -> x.show(0, 2));
        check.fails("8: not accused, the last person", Check.STATE, () -> x.show(0, 7));
        check.is("8: nothing was shown", 0, x.ofItem(0, 6));
        check.is("8: one less to lack", 1, x.show(0, 0));
        check.fails("8: shown already", Check.STATE, () -> x.show(0, 0));
        check.is("8: the other one", 0, x.show(0, 1));
        check.is("8: one that supports can be shown", 1, x.show(2, 0));
        x.withhold(1);
        check.is("8: a withheld one can be shown", 0, x.show(1, 0));
        check.is("8: to whom", 0b0011, x.ofItem(0, 6));
        check.is("8: to whom alone", 0b0001, x.ofItem(1, 6));
    }

    private static void withholding() {
        Chargehouse x = new Chargehouse();
        x.file(0, 0b11, 0);
        item(x, 0, 0, -1, 0b11);
        x.item(0, 0, -1, 0b11, Chargehouse.LAWFULLY, true);
        x.item(0, 0, 3, 0b11, Chargehouse.FORCE, true);
        check.failsAct("9: no such item", Check.INDEX, () -> x.withhold(3));
        check.failsAct("9: an item below 0", Check.INDEX, () -> x.withhold(-1));
        check.failsAct("9: an item 40", Check.INDEX, () -> x.withhold(40));
        check.failsAct("9: not sensitive", Check.STATE, () -> x.withhold(0));
        check.is("9: not withheld", 0, x.ofItem(0, 7));
        check.is("9: both are lacked", 2, x.lacks(0, 1));
        x.show(1, 0);
        x.withhold(1);
        check.is("9: withheld", 1, x.ofItem(1, 7));
        check.is("9: withheld from all", 1, x.lacks(0, 1));
        check.failsAct("9: withheld already", Check.STATE, () -> x.withhold(1));
        x.withhold(2);
        check.is("9: one that supports can be withheld", 1, x.ofItem(2, 7));
    }

    private static void lacking() {
        Chargehouse x = new Chargehouse();
        x.file(0, 0b11, 0);
        x.file(0, 0b11, 0);
        check.is("24: nothing yet", 0, x.lacks(0, 0));
        item(x, 0, 0, 1, 0b11);
        check.is("24: one that supports", 0, x.lacks(0, 0));
        item(x, 0, 0, -1, 0b11);
        x.item(0, 1, -9, 0b01, Chargehouse.UNWARRANTED, false);
        x.item(0, 2, -3, 0b01, Chargehouse.FORCE, true);
        item(x, 1, 0, -1, 0b10);
        check.is("24: however got", 3, x.lacks(0, 0));
        check.is("24: against that one", 1, x.lacks(0, 1));
        check.is("24: of the other file", 0, x.lacks(1, 0));
        check.is("24: of the other file, the other one", 1, x.lacks(1, 1));
        check.is("24: after one is shown", 2, x.show(2, 0));
        x.withhold(3);
        check.is("24: after one is withheld", 1, x.lacks(0, 0));
        check.is("24: the other one", 1, x.lacks(0, 1));
        check.is("24: the last one", 0, x.show(1, 0));
        check.is("24: none", 0, x.lacks(0, 0));
        check.fails("24: no such file", Check.INDEX, () -> x.lacks(2, 0));
        check.fails("24: not accused", Check.INDEX, () -> x.lacks(0, 2));
        check.fails("24: a file below 0", Check.INDEX, () -> x.lacks(-1, 0));
        check.fails("24: a person below 0", Check.INDEX, () -> x.lacks(0, -1));
        check.fails("24: a person 8", Check.INDEX, () -> x.lacks(0, 8));
    }
}

/** Promises 6 to 9, 20, 24 and 25, and "Files, items": each edge that the document names, and right beyond it. */
public final class ItemEdgesTest {
    private static final Check check = new Check();

    public static void main(String[] args) {
        itemArguments();
        itemsAgainst();
        theFirstThrow();
        fortyItems();
        theFortiethIsOneOfThem();
        countingByTheDay();
        admittedByTheDay();
        admittedOnce();
        theGreatestStrengths();
        strengthArguments();
        showingAtTheEdge();
        showingTo();
        withholdingOnce();
        weakening();
        lackingArguments();
        whatOfItems();
        check.report("ItemEdgesTest");
    }

    private static Chargehouse withFiles(int files, int accused) {
        Chargehouse x = new Chargehouse();
        for (int number = 0; number < files; number++) {
            x.file(0, accused, 0);
        }
        return x;
    }

    private static void itemArguments() {
        for (int many = 1; many <= 6; many++) {
            int files = many;
            check.range("6: file of " + many, 0, many - 1, Check.INDEX,
                value -> withFiles(files, 1).item(value, 0, 1, 1, 0, false));
        }
        check.refuses("6: none is there", Check.INDEX, value -> withFiles(0, 1).item(value, 0, 1, 1, 0, false), 0, 1);
        check.range("6: element", 0, 9, Check.INDEX, value -> withFiles(1, 1).item(0, value, 1, 1, 0, false));
        check.range("6: weight above 0", -9, 9, Check.ARGUMENT,
            value -> withFiles(1, 1).item(0, 0, value, 1, 0, false));
        check.takes("6: weight", value -> withFiles(1, 1).item(0, 0, value, 1, 0, false), -1, 1);
        check.refuses("6: weight", Check.ARGUMENT, value -> withFiles(1, 1).item(0, 0, value, 1, 0, false), 0);
        check.range("6: how", Chargehouse.LAWFULLY, Chargehouse.FORCE, Check.ARGUMENT,
            value -> withFiles(1, 1).item(0, 0, 1, 1, value, false));
        check.takes("6: how", value -> withFiles(1, 1).item(0, 0, 1, 1, value, true), Chargehouse.UNWARRANTED);
    }

    private static void itemsAgainst() {
        check.range("6: against all", 1, 255, Check.ARGUMENT, value -> withFiles(1, 255).item(0, 0, 1, value, 0, false));
        check.refuses("6: against others than persons", Check.ARGUMENT,
            value -> withFiles(1, 255).item(0, 0, 1, value, 0, false), 256, 257, 511, 1 << 30, -1, -255);
        int accused = 0b10100101;
        for (int against = 0; against < 256; against++) {
            int set = against;
            String got = Check.outcome(() -> withFiles(1, accused).item(0, 0, 1, set, 0, false));
            boolean isGood = against != 0 && (against | accused) == accused;
            check.note("6: against " + against, isGood ? "0" : Check.ARGUMENT.getName(), got);
        }
        Chargehouse x = withFiles(1, 0b01);
        x.file(0, 0b10, 0);
        check.fails("6: accused in another file alone", Check.ARGUMENT, () -> x.item(0, 0, 1, 0b10, 0, false));
        check.fails("6: accused in both files", Check.ARGUMENT, () -> x.item(1, 0, 1, 0b11, 0, false));
        check.is("6: accused in this file", 0, x.item(1, 0, 1, 0b10, 0, false));
    }

    /** With room for an item, and with none. */
    private static void theFirstThrow() {
        for (int items = 0; items <= 40; items += 40) {
            Chargehouse x = withFiles(2, 1);
            for (int number = 0; number < items; number++) {
                x.item(1, 0, 1, 1, 0, false);
            }
            for (int file = -1; file <= 2; file += 3) {
                int none = file;
                check.fails("6: no file, weight 0", Check.INDEX, () -> x.item(none, 0, 0, 1, 0, false));
                check.fails("6: no file, against nobody", Check.INDEX, () -> x.item(none, 0, 1, 0, 0, false));
                check.fails("6: no file, how 3", Check.INDEX, () -> x.item(none, 0, 1, 1, 3, false));
                check.fails("6: no file", Check.INDEX, () -> x.item(none, 0, 1, 1, 0, false));
            }
            for (int element = -1; element <= 10; element += 11) {
                int none = element;
                check.fails("6: no element, weight 10", Check.INDEX, () -> x.item(0, none, 10, 1, 0, false));
                check.fails("6: no element, against others", Check.INDEX, () -> x.item(0, none, 1, 2, 0, false));
                check.fails("6: no element, how -1", Check.INDEX, () -> x.item(0, none, 1, 1, -1, false));
                check.fails("6: no element", Check.INDEX, () -> x.item(0, none, 1, 1, 0, false));
            }
            check.fails("6: weight 0", Check.ARGUMENT, () -> x.item(0, 0, 0, 1, 0, false));
            check.fails("6: weight 10", Check.ARGUMENT, () -> x.item(0, 0, 10, 1, 0, false));
            check.fails("6: weight -10", Check.ARGUMENT, () -> x.item(0, 0, -10, 1, 0, false));
            check.fails("6: against nobody", Check.ARGUMENT, () -> x.item(0, 0, 1, 0, 0, false));
            check.fails("6: against others", Check.ARGUMENT, () -> x.item(0, 0, 1, 3, 0, false));
            check.fails("6: how 3", Check.ARGUMENT, () -> x.item(0, 0, 1, 1, 3, false));
            check.fails("6: how -1", Check.ARGUMENT, () -> x.item(0, 0, 1, 1, -1, false));
            check.note("6: none of them", items == 0 ? "0" : Check.STATE.getName(),
                Check.outcome(() -> x.item(0, 0, 1, 1, 0, false)));
        }
    }

    private static void fortyItems() {
        Chargehouse x = withFiles(2, 255);
        for (int number = 0; number < 40; number++) {
            int next = number;
            check.fails("6: no item ahead of its number " + next, Check.INDEX, () -> x.ofItem(next, 0));
            check.is("6: the number " + number, number, x.item(number & 1, 0, 1, 255, 0, false));
            check.is("6: there from then on " + number, number & 1, x.ofItem(number, 0));
        }
        check.fails("6: a 41st", Check.STATE, () -> x.item(0, 0, 1, 255, 0, false));
        check.fails("6: a 41st in the other file", Check.STATE, () -> x.item(1, 9, -1, 1, 2, true));
        check.fails("6: there is no 41st", Check.INDEX, () -> x.ofItem(40, 0));
    }

    private static void theFortiethIsOneOfThem() {
        Chargehouse x = withFiles(1, 3);
        for (int number = 0; number < 39; number++) {
            x.item(0, 0, 1, 3, Chargehouse.LAWFULLY, false);
        }
        check.is("6: the fortieth", 39, x.item(0, 0, -9, 3, Chargehouse.UNWARRANTED, true));
        check.is("24: the fortieth", 1, x.lacks(0, 0));
        check.is("20: the fortieth, not admitted", 39, x.strength(0, 0, 0, 0));
        x.admit(39);
        check.is("20: the fortieth, admitted", 30, x.strength(0, 0, 0, 0));
        check.is("8: the fortieth", 0, x.show(39, 0));
        check.is("24: the fortieth, to the other one", 1, x.lacks(0, 1));
        x.withhold(39);
        check.is("9: the fortieth", 0, x.lacks(0, 1));
        for (int k = 0; k < 8; k++) {
            check.is("25: the fortieth " + k, new int[] {0, 0, -9, 3, 0, 0, 1, 1}[k], x.ofItem(39, k));
        }
        check.failsAct("7: no item 40", Check.INDEX, () -> x.admit(40));
        check.fails("8: no item 40", Check.INDEX, () -> x.show(40, 0));
        check.failsAct("9: no item 40", Check.INDEX, () -> x.withhold(40));
    }

    private static void countingByTheDay() {
        for (int how = Chargehouse.LAWFULLY; how <= Chargehouse.FORCE; how++) {
            Chargehouse x = withFiles(1, 1);
            x.pass(50);
            x.item(0, 4, 7, 1, how, false);
            x.pass(50);
            int due = how == Chargehouse.LAWFULLY ? 7 : 0;
            check.is("20: at first, how " + how, 0, x.strength(0, 0, 4, 0));
            check.is("20: the day ahead, how " + how, 0, x.strength(0, 0, 4, 49));
            check.is("20: the day on which it came, how " + how, due, x.strength(0, 0, 4, 50));
            check.is("20: the day behind, how " + how, due, x.strength(0, 0, 4, 51));
            check.is("20: today, how " + how, due, x.strength(0, 0, 4, 100));
            check.is("20: the element below, how " + how, 0, x.strength(0, 0, 3, 100));
            check.is("20: the element above, how " + how, 0, x.strength(0, 0, 5, 100));
        }
        Chargehouse y = withFiles(1, 1);
        Houses.item(y, 0, 3, 1);
        check.is("20: came on the day 0", 3, y.strength(0, 0, 0, 0));
    }

    private static void admittedByTheDay() {
        Chargehouse x = withFiles(1, 1);
        x.item(0, 0, 2, 1, Chargehouse.UNWARRANTED, false);
        x.admit(0);
        check.is("20: came and admitted on the day 0", 2, x.strength(0, 0, 0, 0));
        x.pass(10);
        x.item(0, 0, 3, 1, Chargehouse.UNWARRANTED, false);
        x.admit(1);
        x.item(0, 0, 4, 1, Chargehouse.UNWARRANTED, false);
        x.pass(10);
        x.admit(2);
        check.is("20: as they are admitted", 9, x.strength(0, 0, 0, 20));
        x.pass(10);
        check.is("20: the day ahead of both", 2, x.strength(0, 0, 0, 9));
        check.is("20: came and admitted on the same day", 5, x.strength(0, 0, 0, 10));
        check.is("20: came then, not admitted yet", 5, x.strength(0, 0, 0, 11));
        check.is("20: the day ahead of the admission", 5, x.strength(0, 0, 0, 19));
        check.is("20: the day of the admission", 9, x.strength(0, 0, 0, 20));
        check.is("20: the day behind the admission", 9, x.strength(0, 0, 0, 21));
        check.is("25: the day of the admission", 20, x.ofItem(2, 5));
    }

    private static void admittedOnce() {
        for (int many = 1; many <= 3; many++) {
            int items = many;
            check.range("7: item of " + many, 0, many - 1, Check.INDEX, value -> {
                Chargehouse x = withFiles(1, 1);
                for (int number = 0; number < items; number++) {
                    x.item(0, 0, 1, 1, Chargehouse.UNWARRANTED, false);
                }
                x.admit(value);
                return 0;
            });
        }
        Chargehouse x = withFiles(1, 1);
        check.failsAct("7: none is there", Check.INDEX, () -> x.admit(0));
        x.item(0, 0, 1, 1, Chargehouse.UNWARRANTED, true);
        check.is("25: not admitted", Chargehouse.NONE, x.ofItem(0, 5));
        x.withhold(0);
        x.show(0, 0);
        x.admit(0);
        check.is("25: admitted on the day 0", 0, x.ofItem(0, 5));
        check.failsAct("7: admitted on the same day", Check.STATE, () -> x.admit(0));
        x.pass(1);
        check.failsAct("7: admitted the day ahead", Check.STATE, () -> x.admit(0));
        check.is("25: the first day stays", 0, x.ofItem(0, 5));
    }

    private static void theGreatestStrengths() {
        for (int weight = -9; weight <= 9; weight += 18) {
            Chargehouse x = withFiles(1, 255);
            for (int number = 1; number <= 40; number++) {
                Houses.item(x, 5, weight, 255);
                check.is("20: the sum of " + number, weight * number, x.strength(0, 7, 5, 0));
            }
        }
        Chargehouse y = withFiles(1, 1);
        for (int number = 0; number < 20; number++) {
            Houses.item(y, 0, 9, 1);
            Houses.item(y, 0, -9, 1);
        }
        check.is("20: as much for as against", 0, y.strength(0, 0, 0, 0));
    }

    private static void strengthArguments() {
        Chargehouse x = withFiles(6, 255);
        x.pass(20);
        check.range("20: file", 0, 5, Check.INDEX, value -> x.strength(value, 0, 0, 0));
        check.range("20: person", 0, 7, Check.INDEX, value -> x.strength(0, value, 0, 0));
        check.range("20: element", 0, 9, Check.INDEX, value -> x.strength(0, 0, value, 0));
        check.range("20: day", 0, 20, Check.ARGUMENT, value -> x.strength(0, 0, 0, value));
        check.refuses("20: file, and tomorrow", Check.INDEX, value -> x.strength(value, 0, 0, 21), -1, 6);
        check.refuses("20: file, and a day below 0", Check.INDEX, value -> x.strength(value, 0, 0, -1), -1, 6);
        check.refuses("20: person, and a day below 0", Check.INDEX, value -> x.strength(0, value, 0, -1), -1, 8);
        check.refuses("20: person, and tomorrow", Check.INDEX, value -> x.strength(0, value, 0, 21), -1, 8);
        check.refuses("20: element, and tomorrow", Check.INDEX, value -> x.strength(0, 0, value, 21), -1, 10);
        check.refuses("20: element, and a day below 0", Check.INDEX, value -> x.strength(0, 0, value, -1), -1, 10);
        Chargehouse y = withFiles(1, 0b0110);
        check.refuses("20: not accused", Check.INDEX, value -> y.strength(0, value, 0, 0), 0, 3, 7);
        check.refuses("20: the day 1 on the day 0", Check.ARGUMENT, value -> y.strength(0, 1, 0, value), 1, -1);
    }

    private static Chargehouse withOne(int accused, int against, int weight, boolean isSensitive) {
        Chargehouse x = withFiles(1, accused);
        x.item(0, 0, weight, against, Chargehouse.LAWFULLY, isSensitive);
        return x;
    }

    private static void showingAtTheEdge() {
        check.range("8: item", 0, 0, Check.INDEX, value -> withOne(255, 255, -1, false).show(value, 0));
        check.range("8: person", 0, 7, Check.INDEX, value -> withOne(255, 255, -1, false).show(0, value));
        check.refuses("8: no such person of no such item", Check.INDEX,
            value -> withOne(255, 255, -1, false).show(1, value), -1, 8);
        check.refuses("8: none is there", Check.INDEX, value -> withFiles(1, 1).show(0, value), 0, 1, 8);
    }

    /** Against the persons 1 and 6; the persons 0 and 7 are accused too, 2 is not. */
    private static void showingTo() {
        for (int person = 0; person < 8; person++) {
            int one = person;
            Chargehouse x = withOne(0b11000011, 0b01000010, -1, false);
            if (person == 1 || person == 6) {
                check.is("8: against " + one, 0, x.show(0, person));
                check.is("25: shown to " + one, 1 << person, x.ofItem(0, 6));
                check.fails("8: shown already to " + one, Check.STATE, () -> x.show(0, one));
                x.pass(1);
                check.fails("8: shown already, the day ahead, to " + one, Check.STATE, () -> x.show(0, one));
                check.is("8: the other one", 0, x.show(0, 7 - person));
                check.is("25: shown to both", 0b01000010, x.ofItem(0, 6));
            } else {
                check.fails("8: not against " + one, Check.STATE, () -> x.show(0, one));
                check.is("25: shown to nobody", 0, x.ofItem(0, 6));
            }
        }
    }

    private static void withholdingOnce() {
        Chargehouse x = withOne(3, 3, -1, true);
        Houses.item(x, 0, -1, 3);
        check.range("9: item", 0, 0, Check.INDEX, value -> {
            Chargehouse y = withOne(3, 3, -1, true);
            y.withhold(value);
            return 0;
        });
        check.failsAct("9: none is there", Check.INDEX, () -> withFiles(1, 1).withhold(0));
        check.failsAct("9: not sensitive", Check.STATE, () -> x.withhold(1));
        check.is("25: not withheld", 0, x.ofItem(0, 7));
        x.withhold(0);
        check.is("25: withheld", 1, x.ofItem(0, 7));
        check.failsAct("9: withheld", Check.STATE, () -> x.withhold(0));
        check.is("8: shown, though withheld", 1, x.show(0, 0));
        check.failsAct("9: withheld, and shown", Check.STATE, () -> x.withhold(0));
        check.failsAct("9: no item 2", Check.INDEX, () -> x.withhold(2));
        check.failsAct("9: no item 40", Check.INDEX, () -> x.withhold(40));
    }

    private static void weakening() {
        for (int weight = -9; weight <= 9; weight++) {
            if (weight != 0) {
                Chargehouse x = withOne(3, 1, weight, true);
                int due = weight < 0 ? 1 : 0;
                check.is("24: the weight " + weight, due, x.lacks(0, 0));
                check.is("24: not against that one", 0, x.lacks(0, 1));
                x.withhold(0);
                check.is("24: withheld, the weight " + weight, 0, x.lacks(0, 0));
            }
        }
        Chargehouse y = withFiles(6, 128);
        for (int number = 1; number <= 40; number++) {
            y.item(5, 0, -1, 128, number % 3, false);
            check.is("24: of " + number, number, y.lacks(5, 7));
        }
        check.is("24: in another file", 0, y.lacks(4, 7));
        for (int number = 0; number < 40; number++) {
            check.is("8: are left behind " + number, 39 - number, y.show(number, 7));
        }
        check.is("24: none is left", 0, y.lacks(5, 7));
    }

    private static void lackingArguments() {
        check.range("24: file", 0, 5, Check.INDEX, value -> withFiles(6, 255).lacks(value, 0));
        check.range("24: file of one", 0, 0, Check.INDEX, value -> withFiles(1, 255).lacks(value, 0));
        check.range("24: person", 0, 7, Check.INDEX, value -> withFiles(1, 255).lacks(0, value));
        check.refuses("24: not accused", Check.INDEX, value -> withFiles(1, 0b0110).lacks(0, value), 0, 3, 7);
        check.refuses("24: none is there", Check.INDEX, value -> withFiles(0, 1).lacks(value, 0), 0, 1);
    }

    private static void whatOfItems() {
        check.range("25: item", 0, 0, Check.INDEX, value -> withOne(1, 1, 1, false).ofItem(value, 0));
        check.range("25: what", 0, 7, Check.ARGUMENT, value -> withOne(1, 1, 1, false).ofItem(0, value));
        check.refuses("25: no item 1, and what", Check.INDEX, value -> withOne(1, 1, 1, false).ofItem(1, value), -1, 8);
        check.refuses("25: an item below 0, and what", Check.INDEX,
            value -> withOne(1, 1, 1, false).ofItem(-1, value), -1, 8);
        Chargehouse x = withFiles(6, 255);
        for (int file = 0; file < 6; file += 5) {
            for (int side = -1; side <= 1; side += 2) {
                int number = x.item(file, file == 0 ? 0 : 9, 9 * side, side < 0 ? 1 : 255, 0, false);
                int[] due = {file, file == 0 ? 0 : 9, 9 * side, side < 0 ? 1 : 255, 0, Chargehouse.NONE, 0, 0};
                for (int k = 0; k < due.length; k++) {
                    check.is("25: " + k + " of the item " + number, due[k], x.ofItem(number, k));
                }
            }
        }
    }
}

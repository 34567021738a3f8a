/** Promises 32 to 35: undo, image, back, count. */
public final class PastTest {
    private static final Probe PROBE = new Probe();
    private static final String WORLD = "man a 90;man b 5;tusk t 1 2;tusk u 1 0;debt a b 9 t 0;debt a b 99 t 0;rate 7;"
        + "law pay 0;law die (age>3)*50;";

    public static void main(String[] args) {
        undoing();
        undoingAtMostTwenty();
        undoingAndDays();
        images();
        imagesAndNumbers();
        imagesAndWhatWasSeen();
        counting();
        PROBE.end();
    }

    private static void undoing() {
        TuskLedger x = PROBE.told(WORLD);
        x.go(1);
        PROBE.due("undo()", x.undo(), -1);
        x.gift(1, 3);
        x.lean(0, 1);
        x.lend(1, 0, 4, 1);
        x.pay(0);
        PROBE.due("count(14)", x.count(14), 4);
        PROBE.due("debt(0, 5)", x.debt(0, 5), 2);
        PROBE.due("undo()", x.undo(), 3);
        PROBE.due("debt(0, 5)", x.debt(0, 5), 1);
        PROBE.due("debt(0, 6)", x.debt(0, 6), 9);
        PROBE.due("debt(0, 7)", x.debt(0, 7), 3);
        PROBE.due("count(2)", x.count(2), 3);
        PROBE.due("undo()", x.undo(), 2);
        PROBE.due("count(2)", x.count(2), 2);
        PROBE.due("man(1, 0)", x.man(1, 0), 17);
        PROBE.due("undo()", x.undo(), 1);
        PROBE.due("debt(0, 7)", x.debt(0, 7), 1);
        PROBE.due("undo()", x.undo(), 0);
        PROBE.due("man(1, 0)", x.man(1, 0), 14);
        PROBE.due("undo()", x.undo(), -1);
        PROBE.due("what is refused can't be undone", x.gift(1, 0) + x.lean(0, 0) + x.lend(0, 0, 1, 0) + x.pay(1), -5);
        PROBE.due("undo()", x.undo(), -1);
    }

    private static void undoingAtMostTwenty() {
        TuskLedger x = PROBE.told(WORLD);
        for (int i = 0; i < 23; i++) {
            x.gift(1, 1);
        }
        PROBE.due("count(14)", x.count(14), 20);
        for (int i = 19; i >= 0; i--) {
            PROBE.due("undo()", x.undo(), i);
        }
        PROBE.due("undo()", x.undo(), -1);
        PROBE.due("man(1, 0)", x.man(1, 0), 8);
    }

    private static void undoingAndDays() {
        TuskLedger x = PROBE.told(WORLD);
        x.gift(1, 1);
        x.go(0);
        PROBE.due("no day went by", x.count(14), 1);
        x.go(-1);
        x.go(100);
        PROBE.due("no day went by", x.count(14), 1);
        x.ahead(5, 0, 0);
        x.image();
        PROBE.due("count(14)", x.count(14), 1);
        x.go(1);
        PROBE.due("a day went by", x.count(14), 0);
        PROBE.due("undo()", x.undo(), -1);
    }

    private static void images() {
        TuskLedger x = PROBE.told(WORLD);
        PROBE.due("back()", x.back(), -1);
        x.go(1);
        x.lend(1, 0, 4, 1);
        PROBE.due("image()", x.image(), 1);
        x.gift(0, 50);
        x.lend(0, 1, 7, 1);
        x.lean(0, 1);
        PROBE.due("back()", x.back(), 1);
        PROBE.due("nothing to undo", x.undo(), -1);
        PROBE.due("man(0, 0)", x.man(0, 0), 83);
        PROBE.due("count(2)", x.count(2), 3);
        PROBE.due("debt(0, 7)", x.debt(0, 7), 1);
        PROBE.due("debt(2, 7)", x.debt(2, 7), 2);
        x.go(40);
        PROBE.due("tusk(0, 0)", x.tusk(0, 0) > 3, true);
        PROBE.due("back()", x.back(), 1);
        PROBE.due("tusk(0, 0)", x.tusk(0, 0), 1);
        PROBE.due("count(9)", x.count(9), 2);
        PROBE.due("debt(0, 6)", x.debt(0, 6), 9);
        x.go(2);
        PROBE.due("in place of one ahead", x.image(), 3);
        x.go(4);
        PROBE.due("back()", x.back(), 3);
        PROBE.due("back() again", x.back(), 3);
        PROBE.due("text", Probe.tell(x, WORLD), 9);
        PROBE.due("no image", x.back(), -1);
    }

    private static void imagesAndNumbers() {
        TuskLedger x = PROBE.told("tusk t 1 0;tusk u 1 0;tusk v 1 0;tusk w 1 0;seed 77;law die 50;");
        x.go(5);
        x.image();
        x.go(10);
        int first = x.tusk(0, 2) + 2 * x.tusk(1, 2) + 4 * x.tusk(2, 2) + 8 * x.tusk(3, 2);
        x.back();
        x.go(10);
        int again = x.tusk(0, 2) + 2 * x.tusk(1, 2) + 4 * x.tusk(2, 2) + 8 * x.tusk(3, 2);
        PROBE.due("the same numbers again", again, first);
    }

    private static void imagesAndWhatWasSeen() {
        TuskLedger x = PROBE.told(WORLD);
        x.see(3, 0, true);
        x.image();
        x.see(4, 0, true);
        x.out(0);
        x.known(2);
        x.back();
        PROBE.due("what was seen stays", x.count(12), 3);
        PROBE.due("and by how many it is known", x.count(13), 2);
    }

    private static void counting() {
        TuskLedger x = PROBE.told(WORLD);
        due(x, 2, 2, 2, 6, 0, 0, 0, 0, 0, 2, 0, 95, 0, 0, 0);
        x.go(1);
        x.lend(0, 1, 10, 1);
        x.lend(1, 0, 6, 1);
        x.pay(3);
        x.see(2, 1, true);
        x.known(0);
        due(x, 2, 2, 4, 6, 1, 2, 1, 0, 1, 2, 19, 93, 1, 0, 4 - 1);
        PROBE.due("count(15)", x.count(15), -1);
        PROBE.due("count(-1)", x.count(-1), -1);
        x = PROBE.told("man a 90;man b 5;tusk t 1 0;tusk u 1 0;debt a b 9 t 0;dies t 1;law pay 0;");
        x.go(2);
        due(x, 2, 2, 1, 1, 2, 0, 0, 1, 0, 1, 0, 95, 0, 0, 0);
    }

    private static void due(TuskLedger x, long... want) {
        for (int what = 0; what < want.length; what++) {
            PROBE.due("count(" + what + ")", x.count(what), want[what]);
        }
    }
}

/** THE TEXT at its edges: tokens, items, what a number may be where, where a FAULT is, and the tape empty and full. */
public final class TextEdgesTest {
    private static final String[] KINDS = {"ship", "steamer", "boat", "drifter", "mail", "gig"};

    public static void main(String[] args) {
        rowsOfShips();
        columnsOfShips();
        theTower();
        theLamp();
        theReach();
        numbers();
        everyByteBehind();
        everyByteAhead();
        everyByteBetween();
        otherWords();
        endsTooEarly();
        itemsAndSigns();
        theFirstFaultIsTold();
        theSeventh();
        theTapeIsEmpty();
        theTapeIsFull();
        afterAFault();
        Check.end("TextEdgesTest");
    }

    private static TowerWarns takes(String text, int items) {
        TowerWarns x = new TowerWarns();
        Check.due("'" + text + "'", Check.sea(x, text), items);
        return x;
    }

    private static void fault(String text, int place) {
        Check.due("fault in '" + text + "'", Check.sea(new TowerWarns(), text), -1 - place);
    }

    private static void rowsOfShips() {
        for (int kind = 0; kind < KINDS.length; kind++) {
            String name = KINDS[kind];
            for (int row = 0; row <= 9; row += 9) {
                TowerWarns x = takes(name + " " + row, 1);
                int[] due = {kind, 0, row, 0, 99, 0, 0};
                for (int what = 0; what < due.length; what++) {
                    Check.due(name + " in ROW " + row + ", what " + what, x.of(0, what), due[what]);
                }
            }
            fault(name + " 10", name.length() + 1);
            fault(name, name.length());
            fault(name + " ;", name.length() + 1);
            fault(name + " " + name, name.length() + 1);
        }
    }

    private static void columnsOfShips() {
        for (String name : KINDS) {
            Check.due(name + " at 0", takes(name + " 4 at 0", 1).of(0, 1), 0);
            Check.due(name + " at 19", takes(name + " 4 at 19", 1).of(0, 1), 19);
            fault(name + " 4 at 20", name.length() + 6);
            fault(name + " 4 at", name.length() + 5);
            fault(name + " 4 at ;", name.length() + 6);
            fault(name + " 4 at at", name.length() + 6);
            fault(name + " 4 at 5 at 6", name.length() + 8);
            fault(name + " at 5", name.length() + 1);
        }
    }

    private static void theTower() {
        Check.due("tower 0 0", takes("tower 0 0", 1).now(4), 0);
        Check.due("tower 19 9", takes("tower 19 9", 1).now(4), 199);
        Check.due("tower 0 9", takes("tower 0 9", 1).now(4), 9);
        Check.due("tower 19 0", takes("tower 19 0", 1).now(4), 190);
        fault("tower 20 9", 6);
        fault("tower 19 10", 9);
        fault("tower 20 10", 6);
        fault("tower", 5);
        fault("tower 19", 8);
        fault("tower;", 5);
        fault("tower 19;", 8);
        fault("tower 19 9 9", 11);
        fault("tower 19 9 at 9", 11);
    }

    private static void theLamp() {
        Check.due("burns 0", takes("burns 0", 1).lamp(0), 4033);
        Check.due("burns 11, as it does", takes("burns 11", 1).lamp(0), 4032);
        Check.due("dark 11", takes("dark 11", 1).lamp(0), 4032 - 2048);
        Check.due("dark 0, as it is", takes("dark 0", 1).lamp(0), 4032);
        Check.due("burns, dark, burns", takes("burns 5;dark 5;burns 5", 3).lamp(0), 4032 + 32);
        TowerWarns x = takes("burns 0;burns 1;burns 2;burns 3;burns 4;burns 5", 6);
        Check.due("all hours", x.count(2), 12);
        Check.due("all dark", Check.sea(x, "dark0;dark1;dark2;dark3;dark4;dark5;dark6;dark7;dark8;dark9;dark10;dark11"), 12);
        Check.due("no hour", x.count(2), 0);
        fault("burns 12", 6);
        fault("dark 12", 5);
        fault("burns", 5);
        fault("dark", 4);
        fault("burns 1 2", 8);
        fault("dark at 2", 5);
    }

    private static void theReach() {
        Check.due("reach 0", takes("reach 0", 1).now(5), 0);
        Check.due("reach 9", takes("reach 9", 1).now(5), 9);
        fault("reach 10", 6);
        fault("reach", 5);
        fault("reach 1 2", 8);
    }

    private static void numbers() {
        for (String digits : new String[] {"99", "999", "1000", "9999", "2147483648", "4294967296", "4294967299",
            "18446744073709551616", "99999999999999999999999999999999"}) {
            fault("ship " + digits, 5);
            fault("ship 4 at " + digits, 10);
            fault("tower " + digits + " 0", 6);
            fault("tower 0 " + digits, 8);
            fault("burns " + digits, 6);
            fault("dark " + digits, 5);
            fault("reach " + digits, 6);
        }
        Check.due("a NUMBER is as long as can be", takes("tower1 9", 1).now(4), 19);
        fault("tower19", 7);
        Check.due("digits end a WORD", takes("ship4at19", 1).of(0, 1), 19);
        Check.due("a sign ends a NUMBER", takes("reach9;reach8", 2).now(5), 8);
        fault("ship 1 0", 7);
        fault("ship -1", 5);
        fault("ship +1", 5);
        fault("ship 1.0", 6);
    }

    private static boolean isLetter(int b) {
        return b >= 97 && b <= 122;
    }

    private static boolean isDigit(int b) {
        return b >= 48 && b <= 57;
    }

    private static void everyByteBehind() {
        for (int b = 0; b < 256; b++) {
            TowerWarns x = new TowerWarns();
            Check.feed(x, "reach 3");
            x.feed(b, 1);
            int due = b == 32 ? 1 : b == 59 ? -1 - 8 : isDigit(b) ? -1 - 6 : -1 - 7;
            Check.due("byte " + b + " behind a NUMBER", x.sea(), due);
            Check.feed(x, "reach");
            x.feed(b, 1);
            Check.feed(x, " 3");
            due = b == 32 ? 1 : isLetter(b) ? -1 : isDigit(b) ? -1 - 7 : -1 - 5;
            Check.due("byte " + b + " behind a WORD", x.sea(), due);
        }
    }

    private static void everyByteAhead() {
        for (int b = 0; b < 256; b++) {
            TowerWarns x = new TowerWarns();
            x.feed(b, 1);
            Check.feed(x, "reach 3");
            Check.due("byte " + b + " ahead of a WORD", x.sea(), b == 32 ? 1 : -1);
            x.feed(b, 1);
            Check.due("byte " + b + " alone", x.sea(), b == 32 ? -2 : -1);
        }
    }

    private static void everyByteBetween() {
        for (int b = 0; b < 256; b++) {
            TowerWarns x = new TowerWarns();
            Check.feed(x, "reach 3");
            x.feed(b, 1);
            Check.feed(x, "reach 2");
            int due = b == 59 ? 2 : isDigit(b) ? -1 - 6 : b == 32 ? -1 - 8 : -1 - 7;
            Check.due("byte " + b + " between two ITEMS", x.sea(), due);
        }
    }

    private static void otherWords() {
        String[] words = {"ship", "steamer", "boat", "drifter", "mail", "gig", "tower", "burns", "dark", "reach"};
        for (String word : words) {
            String numbers = word.equals("tower") ? " 1 1" : " 1";
            takes(word + numbers, 1);
            for (int cut = 1; cut < word.length(); cut++) {
                fault(word.substring(0, cut) + numbers, 0);
                fault(word.substring(cut) + numbers, 0);
                fault(word.substring(0, cut) + " " + word.substring(cut) + numbers, 0);
            }
            for (int i = 0; i < word.length(); i++) {
                fault(word.substring(0, i) + "x" + word.substring(i + 1) + numbers, 0);
            }
            fault(word + "a" + numbers, 0);
            fault(word + "z" + numbers, 0);
            fault("a" + word + numbers, 0);
            fault(word + word + numbers, 0);
            fault(word.toUpperCase() + numbers, 0);
            fault(word.substring(0, word.length() - 1) + "Z" + numbers, 0);
        }
        fault("at 1", 0);
        fault("ship 1 a 1", 7);
        fault("ship 1 att 1", 7);
        fault("ship 1 ta 1", 7);
        fault("ship 1 a t 1", 7);
        fault("ship 1 atship 1", 7);
    }

    private static void endsTooEarly() {
        fault("", 0);
        fault(" ", 1);
        fault("    ", 4);
        fault("ship", 4);
        fault("ship   ", 7);
        fault("ship 1 at", 9);
        fault("ship 1 at  ", 11);
        fault("tower 1", 7);
        fault("tower 1  ", 9);
        fault("reach 1;", 8);
        fault("reach 1 ;  ", 11);
    }

    private static void itemsAndSigns() {
        fault(";", 0);
        fault("  ;", 2);
        fault(";reach 1", 0);
        fault("reach 1;;", 8);
        fault("reach 1;;reach 2", 8);
        fault("reach 1 reach 2", 8);
        fault("reach;1", 5);
        fault("1", 0);
        fault("reach 1;2", 8);
        Check.due("the later ITEM stands", takes("reach 1;reach 2", 2).now(5), 2);
        Check.due("blanks all about", takes("  reach  1  ;  reach  2  ", 2).now(5), 2);
        Check.due("no blank at all", takes("tower1 2;reach3;ship4at5;burns0", 4).now(5), 3);
    }

    private static void theFirstFaultIsTold() {
        fault("ship 10;boat 10", 5);
        fault("ship 1;boat 10;Gig", 12);
        fault("ship 10 A", 5);
        fault("A ship 10", 0);
        fault("tower 20 10", 6);
        fault("ship x at 20", 5);
        fault("ship 1 at 20;", 10);
    }

    private static void theSeventh() {
        TowerWarns x = new TowerWarns();
        for (int i = 0; i < 5; i++) {
            x.ship(0, 0);
        }
        Check.due("a 6th and a 7th", Check.sea(x, "gig 1; mail 2"), -1 - 7);
        Check.due("neither comes", x.count(0), 5);
        Check.due("the 7th is told before what is amiss behind its name", Check.sea(x, "gig 1;mail 10"), -1 - 6);
        Check.due("what is amiss before it is told first", Check.sea(x, "gig 10;mail 1"), -1 - 4);
        Check.due("a 6th", Check.sea(x, "gig 1;reach 1"), 2);
        Check.due("it comes", x.count(0), 6);
        for (String name : KINDS) {
            Check.due("a 7th " + name, Check.sea(x, name + " 1"), -1);
            Check.due("a 7th " + name + ", no more than its name", Check.sea(x, "dark 1;" + name), -1 - 7);
        }
        Check.due("another WORD is one still", Check.sea(x, "gigs 1"), -1);
        Check.due("all other ITEMS come", Check.sea(x, "tower 1 2;burns 1;dark 2;reach 3"), 4);
        Check.due("six they stay", x.count(0), 6);
        Check.due("no finding", x.status(-1), 0);
    }

    private static void theTapeIsEmpty() {
        TowerWarns x = new TowerWarns();
        Check.due("wipe an empty one", x.wipe(), 0);
        Check.due("an empty text", x.sea(), -1);
        Check.due("it is empty behind it", x.count(1), 0);
        x.feed('r', 1);
        Check.due("wipe one byte", x.wipe(), 1);
        Check.due("it is empty", x.count(1), 0);
        Check.due("nothing of it is left", Check.sea(x, "each 1"), -1);
        Check.sea(x, "reach 1");
        Check.due("nothing is left of a text that came", x.sea(), -1);
        Check.due("nor of one with a FAULT", Check.sea(x, "reach 1;"), -1 - 8);
        Check.due("so the next begins anew", Check.sea(x, "reach 2"), 1);
    }

    private static void theTapeIsFull() {
        TowerWarns x = new TowerWarns();
        Scene.feedPadded(x, "reach 7", 116);
        Check.due("four to 120", x.feed(0x20202020, 4), 120);
        Check.due("one more", x.feed(' ', 1), Check.FULL);
        Check.due("120 bytes are a text", x.sea(), 1);
        Check.due("reach 7", x.now(5), 7);
        Scene.feedPadded(x, "reach 6", 119);
        Check.due("two too many", x.feed(';' << 8 | ';', 2), Check.FULL);
        Check.due("none of them came", x.count(1), 119);
        Check.due("the 120th", x.feed(';', 1), 120);
        Check.due("it ends too early at 120", x.sea(), -1 - 120);
        Scene.feedPadded(x, "reach 6", 119);
        x.feed('!', 1);
        Check.due("the 120th begins no TOKEN", x.sea(), -1 - 119);
        Scene.feedPadded(x, " ".repeat(114) + "reach6", 120);
        Check.due("the last TOKEN ends at 120", x.sea(), 1);
        Check.due("reach 6", x.now(5), 6);
        Scene.feedPadded(x, "reach " + "0".repeat(113) + "3", 120);
        Check.due("a NUMBER up to 120", x.sea(), 1);
        Check.due("reach 3", x.now(5), 3);
        Scene.feedPadded(x, "a".repeat(120), 120);
        Check.due("a WORD up to 120", x.sea(), -1);
        Scene.feedPadded(x, "dark0;".repeat(20).substring(0, 119), 120);
        Check.due("as many ITEMS as can be", x.sea(), 20);
        Scene.feedPadded(x, "dark0;".repeat(20), 120);
        Check.due("and one that isn't there", x.sea(), -1 - 120);
        Scene.feedPadded(x, ";".repeat(120), 120);
        Check.due("signs alone", x.sea(), -1);
        Scene.feedPadded(x, "", 120);
        Check.due("blanks alone", x.sea(), -1 - 120);
        Check.due("FULL twice", x.status(1), 2);
    }

    private static void afterAFault() {
        String[] texts = {"tower 1 2;reach 9;burns 0;dark 6;ship", "tower 1 2;reach 9;burns 0;dark 6;", "tower 3",
            "reach 9;tower 3 10", "burns 0;burns 12", "dark 6;dark 12", "", "!"};
        for (String text : texts) {
            TowerWarns x = Scene.ended();
            x.wipe();
            TowerWarns y = Scene.ended();
            y.wipe();
            Check.holds("a FAULT in '" + text + "'", Check.sea(x, text) < 0);
            Check.due("no finding for '" + text + "'", x.status(-1), 0);
            Check.same("nothing came of '" + text + "'", Scene.seen(x), Scene.seen(y));
        }
        TowerWarns x = new TowerWarns();
        x.image();
        Check.due("a FAULT", Check.sea(x, "reach 10"), -1 - 6);
        Check.due("the image is kept", x.tear(), 1);
    }
}

import java.util.ArrayList;
import java.util.List;
import java.util.function.Supplier;
import java.util.function.ToLongFunction;

/** Seas to begin from, and all that can be seen of one: a refused call may change nothing of it but status(). */
final class Scene {
    private static final int[] SEA_FIGURES = {0, 1, 2, 3, 4, 5, 6};
    private static final long BITS_TELL = 0x1234567890abL;

    private Scene() { }

    /** As new: no ships, an empty tape, no sheet, no image. */
    static TowerWarns fresh() {
        return new TowerWarns();
    }

    /** Six ships by night, a tape of 120 bytes, sheets of all sorts but for the MISSING sheet 3, and an image of before. */
    static TowerWarns full() {
        TowerWarns x = new TowerWarns();
        for (int kind = 0; kind < 6; kind++) {
            x.ship(kind, kind + 2);
        }
        x.image();
        x.tower(12, 3);
        x.lamp(0b101010101011);
        x.reach(7);
        x.hours(7);
        x.set(0, 3, 9999);
        x.set(1, 4, 3);
        x.sheet(0, 8, 40);
        x.write(0, 0, 9);
        x.write(0, 39, -5);
        x.sheet(1, 16, 3);
        x.write(1, 2, 300);
        x.sheet(2, 64, 5);
        x.write(2, 4, Long.MIN_VALUE);
        feedPadded(x, "tower 3 8;reach 2;burns 4;dark 7", 120);
        return x;
    }

    /** Ship 0 is LOST, ship 1 is BY, ship 2 goes on; a tape of 119 bytes, an empty sheet 3, no image. */
    static TowerWarns ended() {
        TowerWarns x = new TowerWarns();
        x.ship(3, 5);
        x.set(0, 1, 9);
        x.ship(0, 0);
        x.set(1, 1, 19);
        x.ship(2, 9);
        x.hours(1);
        x.sheet(0, 8, 2);
        x.write(0, 1, 7);
        x.sheet(3, 16, 0);
        feedPadded(x, "gig 1 at 2", 119);
        return x;
    }

    /** Feeds a text and blanks behind it, four bytes a call, until the tape has so many. */
    static void feedPadded(TowerWarns x, String text, int size) {
        for (int i = 0; i < size; i += 4) {
            int n = Math.min(4, size - i);
            int bytes = 0;
            for (int k = i; k < i + n; k++) {
                bytes = bytes << 8 | (k < text.length() ? text.charAt(k) : ' ');
            }
            x.feed(bytes, n);
        }
    }

    /** Takes the object apart: its sea, its sheets, then its image's sea, then what its tape tells. */
    static List<String> seen(TowerWarns x) {
        List<String> all = new ArrayList<>();
        for (int what = 0; what <= 3; what++) {
            all.add("count(" + what + ") " + x.count(what));
        }
        addSea(all, x, new int[] {0, 1, 2, 3, 4, 5, 6, 7, 8, 9, 10, 11});
        addSheets(all, x);
        all.add("undo " + x.undo());
        addSea(all, x, SEA_FIGURES);
        all.add("sea " + x.sea());
        addSea(all, x, SEA_FIGURES);
        return all;
    }

    private static void addSea(List<String> all, TowerWarns x, int[] figures) {
        for (int what = 0; what <= 7; what++) {
            all.add("now(" + what + ") " + x.now(what));
        }
        int lamp = x.lamp(0);
        x.lamp(lamp);
        all.add("lamp " + lamp);
        int ships = x.count(0);
        for (int ship = 0; ship < ships; ship++) {
            for (int what : figures) {
                all.add("of(" + ship + ", " + what + ") " + x.of(ship, what));
            }
        }
    }

    private static void addSheets(List<String> all, TowerWarns x) {
        for (int s = 0; s < 4; s++) {
            for (int i = 0; i < 40; i++) {
                all.add("number " + i + " of sheet " + s + " " + x.write(s, i, BITS_TELL));
            }
            all.add("bits of sheet " + s + " " + x.write(s, 0, 0));
        }
    }

    /** The call answers the finding, status() tells one more of it, and nothing else is as it wasn't. */
    static void refused(String sentence, Supplier<TowerWarns> scene, ToLongFunction<TowerWarns> call, int finding) {
        TowerWarns x = scene.get();
        int[] before = told(x);
        Check.due(sentence, call.applyAsLong(x), finding);
        int[] after = told(x);
        for (int which = -1; which <= 6; which++) {
            int more = which == -1 || which == Check.BEYOND - finding ? 1 : 0;
            Check.due(sentence + ": status(" + which + ")", after[which + 1], before[which + 1] + more);
        }
        Check.same(sentence + ": nothing else changes", seen(x), seen(scene.get()));
    }

    /** The call answers what is due, and neither status() nor anything else is as it wasn't. */
    static void looks(String sentence, Supplier<TowerWarns> scene, ToLongFunction<TowerWarns> call, long due) {
        TowerWarns x = scene.get();
        int before = x.status(-1);
        Check.due(sentence, call.applyAsLong(x), due);
        Check.due(sentence + ": no finding", x.status(-1), before);
        Check.same(sentence + ": nothing changes", seen(x), seen(scene.get()));
    }

    private static int[] told(TowerWarns x) {
        int[] told = new int[8];
        for (int which = -1; which <= 6; which++) {
            told[which + 1] = x.status(which);
        }
        return told;
    }
}

/**
 * How an hour goes at its edges: each line is one sentence of the document's 'AN HOUR goes', or of what a KIND
 * SEES, its SPEED, what it KEEPS OFF and whether it STANDS, just within and just beyond what that names.
 */
public final class HourEdgesTest {
    private static final int SHIP = 0;
    private static final int STEAMER = 1;
    private static final int BOAT = 2;
    private static final int DRIFTER = 3;
    private static final int MAIL = 4;
    private static final int GIG = 5;

    public static void main(String[] args) {
        distances();
        shipSees();
        steamerSees();
        boatSees();
        drifterSees();
        mailSees();
        gigSees();
        speeds();
        keepsOff();
        stands();
        theTowersColumn();
        rowsTowardsNought();
        rowsTowardsNine();
        gigTurnsIn();
        costs();
        pastTheLastColumn();
        near();
        lost();
        endedOnesStay();
        theHourOfTheDay();
        Check.end("HourEdgesTest");
    }

    /** One ship in a sea at an hour; the tower stands at COLUMN 10, ROW 5 with REACH 4, lit at NIGHT, unless told. */
    private static final class Trip {
        private final TowerWarns x = new TowerWarns();

        Trip(int hour, int kind, int column, int row) {
            if (hour > 0) {
                x.hours(hour);
            }
            x.ship(kind, row);
            x.set(0, 1, column);
        }

        Trip tower(int column, int row) {
            x.tower(column, row);
            return this;
        }

        Trip lamp(int set) {
            x.lamp(set);
            return this;
        }

        Trip dark() {
            return lamp(0);
        }

        Trip reach(int v) {
            x.reach(v);
            return this;
        }

        Trip cost(int v) {
            x.set(0, 3, v);
            return this;
        }

        Trip near(int v) {
            x.set(0, 4, v);
            return this;
        }

        Trip hours(int n) {
            x.hours(n);
            return this;
        }

        /** What 'of' answers now. */
        Trip is(String sentence, int what, int due) {
            Check.due(sentence, x.of(0, what), due);
            return this;
        }

        /** Where it is: COLUMN, ROW, COST, NEAR, LOST, BY. */
        private Trip at(String sentence, int... due) {
            String[] names = {"COLUMN", "ROW", "COST", "NEAR", "LOST", "BY"};
            for (int i = 0; i < due.length; i++) {
                Check.due(sentence + ": " + names[i], x.of(0, i + 1), due[i]);
            }
            return this;
        }

        /** Where it is an hour on, neither LOST nor BY. */
        Trip goes(String sentence, int column, int row, int cost, int near) {
            return hours(1).at(sentence, column, row, cost, near, 0, 0);
        }

        Trip isLost(String sentence, int column, int row, int cost) {
            return hours(1).at(sentence, column, row, cost, 0, 1, 0);
        }

        Trip isBy(String sentence, int row, int cost, int near) {
            return hours(1).at(sentence, 20, row, cost, near, 0, 1);
        }
    }

    private static Trip trip(int hour, int kind, int column, int row) {
        return new Trip(hour, kind, column, row);
    }

    private static void distances() {
        trip(0, SHIP, 10, 5).is("none", 7, 0);
        trip(0, SHIP, 9, 4).is("as far in COLUMNS as in ROWS", 7, 1);
        trip(0, SHIP, 8, 4).is("farther in COLUMNS", 7, 2);
        trip(0, SHIP, 9, 3).is("farther in ROWS", 7, 2);
        trip(0, SHIP, 12, 6).is("behind the tower", 7, 2);
        trip(0, SHIP, 11, 9).is("in a greater ROW", 7, 4);
        trip(0, SHIP, 0, 0).tower(19, 9).is("all over the sea", 7, 19);
        trip(0, SHIP, 19, 0).tower(19, 9).is("all ROWS", 7, 9);
        trip(0, SHIP, 19, 5).tower(0, 5).hours(1).is("one BY is at COLUMN 20", 7, 20);
    }

    private static void shipSees() {
        trip(0, SHIP, 7, 5).is("a ship by day at 3", 8, 1).goes("a ship by day at 3", 8, 4, 1, 2);
        trip(0, SHIP, 6, 5).is("a ship by day at 4", 8, 0).goes("a ship by day at 4", 7, 5, 0, 3);
        trip(5, SHIP, 7, 5).dark().is("a ship by day needs no lamp", 8, 1);
        trip(5, SHIP, 6, 5).reach(9).lamp(4095).is("a ship by day isn't helped by one", 8, 0);
        trip(0, SHIP, 7, 8).is("a ship by day at 3 and 3", 8, 1);
        trip(0, SHIP, 10, 9).is("a ship by day at 4 ROWS", 8, 0);
        trip(6, SHIP, 6, 5).is("a ship by night at REACH", 8, 1).goes("a ship by night at REACH", 7, 4, 1, 3);
        trip(6, SHIP, 5, 5).is("a ship by night beyond it", 8, 0).goes("a ship by night beyond it", 6, 5, 0, 4);
        trip(6, SHIP, 10, 5).reach(0).is("REACH 0 at 0", 8, 1).goes("REACH 0 at 0", 11, 4, 1, 1);
        trip(6, SHIP, 9, 5).reach(0).is("REACH 0 at 1", 8, 0).isLost("REACH 0 at 1", 10, 5, 0);
        trip(11, SHIP, 1, 5).reach(9).is("REACH 9 at 9", 8, 1).goes("REACH 9 at 9", 2, 4, 1, 8);
        trip(11, SHIP, 0, 5).reach(9).is("REACH 9 at 10", 8, 0).goes("REACH 9 at 10", 1, 5, 0, 9);
        trip(6, SHIP, 10, 5).dark().is("in the dark a ship sees nothing", 8, 0).goes("in the dark", 11, 5, 0, 1);
        trip(6, SHIP, 9, 5).lamp(64).is("it burns in this hour", 8, 1);
        trip(6, SHIP, 9, 5).lamp(4095 - 64).is("it burns in all others", 8, 0);
        trip(11, SHIP, 9, 5).lamp(2048).is("it burns in the last hour", 8, 1);
        trip(11, SHIP, 9, 5).lamp(2047).is("it burns in all before", 8, 0);
        trip(18, SHIP, 9, 5).lamp(64).is("it burns in this hour of the next day", 8, 1);
    }

    private static void steamerSees() {
        trip(0, STEAMER, 7, 5).is("a steamer by day at 3", 8, 1);
        trip(0, STEAMER, 6, 5).is("a steamer by day at 4", 8, 0);
        trip(6, STEAMER, 6, 5).is("a steamer by night at REACH", 8, 1);
        trip(6, STEAMER, 5, 5).is("a steamer by night beyond it", 8, 0);
        trip(6, STEAMER, 10, 5).dark().is("a steamer in the dark at 0", 8, 0).goes("in the dark at 0", 12, 5, 0, 1);
        trip(6, STEAMER, 9, 5).dark().is("a steamer in the dark at 1", 8, 1).goes("in the dark at 1", 9, 5, 1, 99);
        trip(6, STEAMER, 8, 5).dark().is("a steamer in the dark at 2", 8, 0).isLost("in the dark at 2", 10, 5, 0);
        trip(6, STEAMER, 9, 5).reach(0).is("a steamer with REACH 0 at 1", 8, 1);
        trip(6, STEAMER, 8, 5).reach(1).is("a steamer with REACH 1 at 2", 8, 0);
        trip(6, STEAMER, 8, 5).reach(2).is("a steamer with REACH 2 at 2", 8, 1);
    }

    private static void boatSees() {
        trip(5, BOAT, 7, 5).is("a boat by day at 3", 8, 1).goes("a boat by day at 3", 8, 3, 1, 2);
        trip(5, BOAT, 6, 5).is("a boat by day at 4", 8, 0).goes("a boat by day at 4", 7, 5, 0, 3);
        trip(6, BOAT, 8, 5).is("a boat by night at 2", 8, 1).goes("a boat by night at 2", 9, 3, 1, 2);
        trip(6, BOAT, 7, 5).is("a boat by night at 3", 8, 0).goes("a boat by night at 3", 8, 5, 0, 2);
        trip(6, BOAT, 8, 5).dark().is("a boat in the dark at 2", 8, 1);
        trip(6, BOAT, 8, 5).reach(0).is("a boat doesn't mind REACH 0", 8, 1);
        trip(6, BOAT, 7, 5).reach(9).is("a boat doesn't mind REACH 9", 8, 0);
        trip(11, BOAT, 10, 5).dark().is("a boat in the dark at 0", 8, 1);
    }

    private static void drifterSees() {
        trip(0, DRIFTER, 10, 5).is("a drifter by day at 0", 8, 0);
        trip(0, DRIFTER, 9, 5).is("a drifter by day at 1", 8, 0).isLost("a drifter", 10, 5, 0);
        trip(6, DRIFTER, 10, 5).is("a drifter by night at 0", 8, 0).goes("a drifter by night", 11, 5, 0, 1);
    }

    private static void mailSees() {
        trip(0, MAIL, 7, 5).is("mail by day at 3", 8, 1).goes("mail by day at 3", 10, 4, 1, 1);
        trip(0, MAIL, 6, 5).is("mail by day at 4", 8, 0).goes("mail by day at 4", 9, 5, 0, 1);
        trip(6, MAIL, 4, 5).is("mail by night at REACH and 2", 8, 1);
        trip(6, MAIL, 3, 5).is("mail by night beyond it", 8, 0);
        trip(6, MAIL, 8, 5).reach(0).is("mail with REACH 0 at 2", 8, 1).goes("mail with REACH 0 at 2", 11, 4, 1, 1);
        trip(6, MAIL, 7, 5).reach(0).is("mail with REACH 0 at 3", 8, 0).isLost("mail with REACH 0 at 3", 10, 5, 0);
        trip(6, MAIL, 7, 5).reach(1).is("mail with REACH 1 at 3", 8, 1).goes("mail with REACH 1 at 3", 10, 4, 1, 1);
        trip(6, MAIL, 8, 5).tower(19, 5).reach(9).is("mail with REACH 9 at 11", 8, 1);
        trip(6, MAIL, 7, 5).tower(19, 5).reach(9).is("mail with REACH 9 at 12", 8, 0);
        trip(6, MAIL, 10, 5).dark().is("mail in the dark at 0", 8, 0);
        trip(6, MAIL, 9, 5).dark().is("mail in the dark at 1", 8, 1);
        trip(6, MAIL, 8, 5).dark().is("mail in the dark at 2", 8, 0).isLost("mail in the dark at 2", 10, 5, 0);
    }

    private static void gigSees() {
        trip(5, GIG, 0, 0).tower(19, 5).is("a gig by day at 19", 8, 1).goes("a gig by day at 19", 2, 1, 1, 17);
        trip(0, GIG, 0, 0).dark().reach(0).is("a gig by day needs no lamp", 8, 1);
        trip(6, GIG, 8, 3).is("a gig by night at 2", 8, 1).goes("a gig by night at 2", 9, 4, 1, 1);
        trip(6, GIG, 7, 3).is("a gig by night at 3", 8, 0).goes("a gig by night at 3", 8, 3, 0, 2);
        trip(11, GIG, 8, 3).dark().is("a gig in the dark at 2", 8, 1);
        trip(11, GIG, 7, 3).reach(9).is("a gig doesn't mind REACH", 8, 0);
        trip(12, GIG, 0, 0).is("a gig by day again", 8, 1);
    }

    private static void speeds() {
        int[] hours = {0, 1, 4, 5, 6, 7, 10, 11, 12, 13, 17, 18, 23, 24};
        int[] drifter = {1, 0, 1, 0, 1, 0, 1, 0, 1, 0, 0, 1, 0, 1};
        int[] gig = {2, 2, 2, 2, 1, 1, 1, 1, 2, 2, 2, 1, 1, 2};
        for (int i = 0; i < hours.length; i++) {
            int[] speeds = {1, 2, 1, drifter[i], 3, gig[i]};
            for (int kind = 0; kind < 6; kind++) {
                Trip t = trip(hours[i], kind, 0, 0).tower(0, 9);
                t.is("SPEED of kind " + kind + " at " + hours[i], 9, speeds[kind]);
                t.hours(1).is("COLUMNS of kind " + kind + " at " + hours[i], 1, speeds[kind]);
            }
        }
    }

    private static void keepsOff() {
        trip(0, SHIP, 0, 5).is("a ship keeps off 1, however far", 10, 101);
        trip(0, STEAMER, 0, 5).is("a steamer keeps off 1", 10, 101);
        trip(0, BOAT, 0, 5).is("a boat keeps off 2", 10, 102);
        trip(0, DRIFTER, 9, 5).is("a drifter keeps off 0", 10, 100);
        trip(0, MAIL, 7, 5).is("mail at 3 keeps off 1", 10, 101);
        trip(0, MAIL, 6, 5).is("mail at 4 keeps off 0", 10, 100);
        trip(0, MAIL, 10, 9).is("mail at 4 ROWS keeps off 0", 10, 100);
        trip(0, MAIL, 10, 8).is("mail at 3 ROWS keeps off 1", 10, 101);
        trip(6, MAIL, 6, 5).goes("mail that sees it at 4 stays in its ROW", 9, 5, 0, 1);
        trip(0, GIG, 0, 5).is("a gig keeps off -1", 10, 99);
    }

    private static void stands() {
        trip(5, STEAMER, 9, 5).is("a steamer by day goes", 11, 0).goes("a steamer by day", 11, 4, 1, 1);
        trip(6, STEAMER, 9, 5).is("a steamer by night stands", 11, 1).goes("a steamer by night", 9, 5, 1, 99);
        trip(11, STEAMER, 9, 5).is("in the last hour of it", 11, 1).goes("in the last hour of it", 9, 5, 1, 99);
        trip(12, STEAMER, 9, 5).is("by day again", 11, 0).goes("by day again", 11, 4, 1, 1);
        trip(6, STEAMER, 10, 5).is("a steamer at 0 goes", 11, 0).goes("a steamer at 0", 12, 4, 1, 1);
        trip(6, STEAMER, 8, 5).is("a steamer at 2 goes", 11, 0).goes("a steamer at 2", 10, 4, 1, 1);
        trip(6, STEAMER, 9, 4).is("a steamer at 1 and 1 stands", 11, 1).goes("a steamer at 1 and 1", 9, 4, 1, 99);
        trip(6, STEAMER, 9, 5).cost(5).is("a steamer minds no COST", 11, 1).goes("a steamer minds no COST", 9, 5, 6, 99);
        trip(6, STEAMER, 11, 5).is("one that is past it stands", 11, 1).goes("but goes all the same", 13, 5, 0, 2);
        trip(6, MAIL, 9, 5).cost(4).is("mail with COST 4 stands", 11, 1).goes("mail with COST 4", 9, 5, 5, 99);
        trip(6, MAIL, 9, 5).cost(5).is("mail with COST 5 goes", 11, 0).goes("mail with COST 5", 12, 4, 6, 1);
        trip(6, MAIL, 10, 5).is("mail at 0 goes", 11, 0).goes("mail at 0", 13, 4, 1, 1);
        trip(6, MAIL, 8, 5).is("mail at 2 goes", 11, 0).goes("mail at 2", 11, 4, 1, 1);
        trip(5, MAIL, 9, 5).is("mail by day goes", 11, 0).goes("mail by day", 12, 4, 1, 1);
        for (int kind : new int[] {SHIP, BOAT, DRIFTER, GIG}) {
            trip(6, kind, 9, 5).is("kind " + kind + " never stands", 11, 0);
        }
    }

    private static void theTowersColumn() {
        trip(0, SHIP, 9, 5).goes("before the tower's COLUMN it turns", 10, 4, 1, 1);
        trip(0, SHIP, 10, 4).goes("in it, it turns", 11, 3, 1, 2);
        trip(0, SHIP, 11, 5).goes("past it, it doesn't", 12, 5, 0, 2);
        trip(0, GIG, 10, 7).goes("a gig in it turns in", 12, 6, 1, 1);
        trip(0, GIG, 11, 7).goes("a gig past it doesn't", 13, 7, 0, 2);
        trip(6, STEAMER, 10, 4).goes("a steamer in it stands", 10, 4, 1, 99);
        trip(6, STEAMER, 11, 4).goes("a steamer past it doesn't", 13, 4, 0, 2);
        trip(0, SHIP, 0, 5).tower(0, 5).goes("the first COLUMN", 1, 4, 1, 1);
        trip(0, SHIP, 1, 5).tower(0, 5).goes("past the first COLUMN", 2, 5, 0, 2);
        trip(0, SHIP, 18, 5).tower(19, 5).goes("before the last COLUMN", 19, 4, 1, 1);
        trip(0, SHIP, 19, 5).tower(19, 5).isBy("in the last COLUMN", 4, 1, 99);
    }

    private static void rowsTowardsNought() {
        trip(0, SHIP, 8, 5).goes("in the tower's ROW: 1 less", 9, 4, 1, 1);
        trip(0, SHIP, 8, 4).goes("in the next lesser one: 1 less", 9, 3, 1, 2);
        trip(0, BOAT, 8, 5).goes("a boat in the tower's ROW: 2 less", 9, 3, 1, 2);
        trip(0, SHIP, 8, 1).tower(10, 1).goes("from 1 to 0", 9, 0, 1, 1);
        trip(0, SHIP, 8, 0).tower(10, 1).goes("not below 0, and no COST", 9, 0, 0, 1);
        trip(0, SHIP, 8, 0).tower(10, 0).goes("nor with the tower at 0", 9, 0, 0, 1);
        trip(0, BOAT, 8, 2).tower(10, 2).goes("a boat from 2 to 0", 9, 0, 1, 2);
        trip(0, BOAT, 8, 1).tower(10, 2).goes("a boat from 1 to 0, cut, with COST", 9, 0, 1, 2);
        trip(0, BOAT, 8, 0).tower(10, 2).goes("a boat not below 0", 9, 0, 0, 2);
        trip(0, SHIP, 8, 9).tower(10, 9).goes("in ROW 9 with the tower: 1 less", 9, 8, 1, 1);
    }

    private static void rowsTowardsNine() {
        trip(0, SHIP, 8, 6).goes("in the next greater ROW: 1 more", 9, 7, 1, 2);
        trip(0, BOAT, 8, 6).goes("a boat: 2 more", 9, 8, 1, 3);
        trip(0, SHIP, 8, 8).tower(10, 7).goes("from 8 to 9", 9, 9, 1, 2);
        trip(0, SHIP, 8, 9).tower(10, 8).goes("not above 9, and no COST", 9, 9, 0, 1);
        trip(0, BOAT, 8, 7).tower(10, 6).goes("a boat from 7 to 9", 9, 9, 1, 3);
        trip(0, BOAT, 8, 8).tower(10, 7).goes("a boat from 8 to 9, cut, with COST", 9, 9, 1, 2);
        trip(0, BOAT, 8, 9).tower(10, 7).goes("a boat not above 9", 9, 9, 0, 2);
        trip(0, SHIP, 8, 1).tower(10, 0).goes("the tower at 0: 1 more", 9, 2, 1, 2);
    }

    private static void gigTurnsIn() {
        trip(0, GIG, 0, 3).goes("from a lesser ROW nearer", 2, 4, 1, 8);
        trip(0, GIG, 0, 4).goes("from the next lesser one to the tower's", 2, 5, 1, 8);
        trip(0, GIG, 0, 5).goes("no greater than the tower's, and no COST", 2, 5, 0, 8);
        trip(0, GIG, 0, 6).goes("from the next greater one to the tower's", 2, 5, 1, 8);
        trip(0, GIG, 0, 7).goes("from a greater ROW nearer", 2, 6, 1, 8);
        trip(0, GIG, 0, 0).tower(10, 0).goes("the tower at 0: stays", 2, 0, 0, 8);
        trip(0, GIG, 0, 1).tower(10, 0).goes("the tower at 0: to it", 2, 0, 1, 8);
        trip(0, GIG, 0, 9).tower(10, 9).goes("the tower at 9: stays", 2, 9, 0, 8);
        trip(0, GIG, 0, 8).tower(10, 9).goes("the tower at 9: to it", 2, 9, 1, 8);
    }

    private static void costs() {
        trip(0, SHIP, 8, 5).cost(9998).goes("COST up to 9999", 9, 4, 9999, 1);
        trip(0, SHIP, 8, 5).cost(9999).goes("COST held, turned all the same", 9, 4, 9999, 1);
        trip(6, STEAMER, 9, 5).cost(9998).goes("COST of standing up to 9999", 9, 5, 9999, 99);
        trip(6, STEAMER, 9, 5).cost(9999).goes("COST of standing held", 9, 5, 9999, 99);
        trip(0, SHIP, 8, 5).cost(4).hours(1).is("as one of its KIND", 3, 5);
        trip(0, DRIFTER, 8, 5).cost(7).goes("a drifter has none", 9, 5, 7, 1);
    }

    private static void pastTheLastColumn() {
        trip(0, SHIP, 18, 5).goes("19 isn't past it", 19, 5, 0, 9);
        trip(0, SHIP, 19, 5).isBy("20 is, and NEAR isn't of there", 5, 0, 99);
        trip(0, STEAMER, 17, 5).goes("two COLUMNS to 19", 19, 5, 0, 8);
        trip(0, STEAMER, 18, 5).isBy("one to 19, one past it", 5, 0, 9);
        trip(0, STEAMER, 19, 5).isBy("no further than 20 of two", 5, 0, 99);
        trip(0, MAIL, 16, 5).goes("three COLUMNS to 19", 19, 5, 0, 7);
        trip(0, MAIL, 17, 5).isBy("two to 19, one past it", 5, 0, 8);
        trip(0, MAIL, 18, 5).isBy("one to 19, and no further than 20", 5, 0, 9);
        trip(0, MAIL, 19, 5).isBy("no further than 20 of three", 5, 0, 99);
        trip(0, GIG, 18, 5).isBy("a gig by day", 5, 0, 9);
        trip(6, GIG, 18, 5).goes("a gig by night", 19, 5, 0, 9);
        trip(0, DRIFTER, 19, 5).isBy("a drifter in an even hour", 5, 0, 99);
        trip(1, DRIFTER, 19, 5).goes("a drifter in an odd one", 19, 5, 0, 99);
    }

    private static void near() {
        trip(0, DRIFTER, 7, 5).near(3).goes("2 is below 3", 8, 5, 0, 2);
        trip(0, DRIFTER, 7, 5).near(2).goes("2 isn't below 2", 8, 5, 0, 2);
        trip(0, DRIFTER, 7, 5).near(1).goes("2 isn't below 1", 8, 5, 0, 1);
        trip(0, DRIFTER, 7, 5).near(0).goes("NEAR 0 isn't LOST, only DISTANCE 0 is", 8, 5, 0, 0);
        trip(0, DRIFTER, 11, 5).goes("it is measured behind the step, not before it", 12, 5, 0, 2);
        trip(1, DRIFTER, 9, 5).goes("no step, no NEAR", 9, 5, 0, 99);
        trip(6, STEAMER, 9, 5).near(7).goes("nor if it stands", 9, 5, 1, 7);
        trip(0, MAIL, 9, 0).tower(10, 9).goes("the least of three steps", 12, 0, 0, 9);
        trip(6, MAIL, 9, 4).dark().cost(5).tower(11, 5).goes("the nearest step is neither first nor last", 12, 4, 5, 1);
        trip(0, DRIFTER, 0, 0).tower(19, 9).goes("18 is below 99", 1, 0, 0, 18);
        trip(0, SHIP, 9, 5).near(0).goes("it comes no nearer than it was", 10, 4, 1, 0);
    }

    private static void lost() {
        trip(0, DRIFTER, 9, 5).isLost("on the tower", 10, 5, 0);
        trip(0, DRIFTER, 9, 4).goes("beside it", 10, 4, 0, 1);
        trip(0, DRIFTER, 10, 5).goes("from it", 11, 5, 0, 1);
        trip(0, GIG, 9, 4).isLost("in the first of two steps, and no further", 10, 5, 1);
        trip(0, GIG, 8, 4).isLost("in the second of two", 10, 5, 1);
        trip(6, MAIL, 8, 5).dark().isLost("in the second of three, and no further", 10, 5, 0);
        trip(6, MAIL, 7, 5).dark().isLost("in the third of three", 10, 5, 0);
        trip(6, MAIL, 6, 5).dark().goes("not in three", 9, 5, 0, 1);
        trip(0, DRIFTER, 18, 5).tower(19, 5).isLost("in the last COLUMN", 19, 5, 0);
        trip(6, STEAMER, 17, 5).tower(19, 5).dark().isLost("in the last COLUMN, and not BY", 19, 5, 0);
        trip(6, MAIL, 17, 5).tower(19, 5).dark().isLost("in the last COLUMN with a step left, and not BY", 19, 5, 0);
        trip(0, DRIFTER, 0, 0).tower(1, 0).isLost("in ROW 0", 1, 0, 0);
        trip(0, DRIFTER, 0, 9).tower(1, 9).isLost("in ROW 9", 1, 9, 0);
        trip(0, DRIFTER, 19, 5).tower(0, 5).isBy("COLUMN 20 doesn't come round to 0", 5, 0, 99);
    }

    private static void endedOnesStay() {
        Trip lost = trip(0, DRIFTER, 9, 5).hours(1).tower(15, 5);
        lost.hours(100).at("one LOST goes no more", 10, 5, 0, 0, 1, 0);
        Trip by = trip(0, GIG, 19, 2).hours(1).tower(19, 5);
        by.hours(100).at("one BY goes no more, and turns no more", 20, 2, 0, 99, 0, 1);
    }

    private static void theHourOfTheDay() {
        trip(5, SHIP, 6, 5).hours(2).at("the 5th hour is by day, the 6th by night", 8, 4, 1, 2);
        trip(5, SHIP, 6, 5).dark().hours(2).at("and dark", 8, 5, 0, 2);
        trip(11, SHIP, 8, 5).dark().hours(2).at("the 11th hour is by night, the next by day", 10, 4, 1, 1);
        trip(4, GIG, 0, 5).tower(0, 0).hours(3).at("a gig in hours 4, 5, 6", 5, 4, 1, 4);
        trip(10, GIG, 0, 5).tower(0, 0).hours(3).at("a gig in hours 10, 11, 0", 4, 5, 0, 5);
        trip(10, DRIFTER, 0, 5).hours(3).at("a drifter in hours 10, 11, 0", 2, 5, 0, 8);
        trip(7, SHIP, 7, 2).lamp(1 << 8).hours(3).at("the lamp in the 8th hour alone", 10, 1, 1, 3);
    }
}

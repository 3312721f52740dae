/** AHEAD and what is best: a call that only looks changes nothing at all, not even status(). */
public final class LooksTest {
    public static void main(String[] args) {
        asIs();
        ahead();
        best();
        Check.end("LooksTest");
    }

    private static void asIs() {
        int[] now = {7, 7, 1, 1, 123, 7, 0b100000, 0b010000};
        for (int i = 0; i < now.length; i++) {
            int what = i;
            Scene.looks("5: now(" + what + ")", Scene::full, x -> x.now(what), now[what]);
        }
        int[] of = {3, 10, 5, 0, 0, 1, 0, 0, 0, 0, 100, 0};
        for (int i = 0; i < of.length; i++) {
            int what = i;
            Scene.looks("7: of(0, " + what + ") of one LOST", Scene::ended, x -> x.of(0, what), of[what]);
        }
        Scene.looks("10: as", Scene::full, x -> x.as(0, 0), 9999);
        Scene.looks("34: SHIPS", Scene::full, x -> x.count(0), 6);
        Scene.looks("34: bytes", Scene::full, x -> x.count(1), 120);
        Scene.looks("34: hours", Scene::full, x -> x.count(2), 7);
        Scene.looks("35: status", Scene::full, x -> x.status(-1), 0);
    }

    private static void ahead() {
        Scene.looks("12: on, now", Scene::ended, x -> x.on(2, 0, 0), 1);
        Scene.looks("12: on, as far as can be", Scene::ended, x -> x.on(2, 100, 0), 20);
        Scene.looks("13: then, now", Scene::ended, x -> x.then(0, 0), 0b001);
        Scene.looks("13: then, as far as can be", Scene::ended, x -> x.then(100, 1), 0b110);
        Scene.looks("14: comes, it did", Scene::ended, x -> x.comes(1), 0);
        Scene.looks("14: comes, it will", Scene::ended, x -> x.comes(2), 19);
        Scene.looks("15: wrecks, it is", Scene::ended, x -> x.wrecks(0), 0);
    }

    private static void best() {
        Scene.looks("16: row", Scene::ended, x -> x.row(2), 0);
        Scene.looks("17: kind", Scene::ended, x -> x.kind(2), 4);
        Scene.looks("18: shine", Scene::ended, x -> x.shine(60), 0);
        Scene.looks("19: hour", Scene::ended, x -> x.hour(60), 0);
        Scene.looks("20: site", Scene::ended, x -> x.site(40), 0);
        Scene.looks("21: nearest, now", Scene::ended, x -> x.nearest(0), 0);
        Scene.looks("21: nearest, ahead", Scene::ended, x -> x.nearest(100), 0);
        Scene.looks("30: read, one LOST in row 5, told 0 and 7", Scene::ended, x -> x.read(0, 0), 0);
        Scene.looks("30: read, no numbers", Scene::ended, x -> x.read(3, 0), 60);
    }
}

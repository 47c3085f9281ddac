/** Promises 36 and 37: images of all that is told. */
public final class ImagesTest {
    private static final int NONE = SpoonShort.NONE;
    private static final String TABLE = "alike 2;person 1 1 0 0;person 1 1 0 0;person 1 1 0 0;law 1 keep 2;jumpy 2;";

    public static void main(String[] args) {
        SpoonShort x = new SpoonShort();
        for (int k : new int[] {-1, 3, Integer.MAX_VALUE, Integer.MIN_VALUE}) {
            Check.due("image " + k, x.image(k), false);
            Check.due("again " + k, x.again(k), false);
        }
        Check.due("again 2", x.again(2), false);
        Check.due("image of nothing", x.image(2), true);
        tellAll(x);
        Check.due("image 0", x.image(0), true);
        all(x);
        changeAll(x);
        Check.due("image 1", x.image(1), true);
        Check.due("again 0", x.again(0), true);
        all(x);
        Check.due("again 0 twice", x.again(0), true);
        all(x);
        Check.due("again 1", x.again(1), true);
        changed(x);
        Check.due("again 2", x.again(2), true);
        for (int sort = 0; sort < 5; sort++) {
            Check.due("nothing", x.count(sort), 0);
        }
        Check.due("no tape", x.end(1), NONE);
        Check.due("no FAULT", x.fault(0), 0);
        Check.due("an image is as it was", x.again(0), true);
        all(x);
        Check.due("image 0 anew", x.image(2), true);
        Check.due("again 1", x.again(1), true);
        Check.due("again 2", x.again(2), true);
        all(x);
        Check.finish();
    }

    private static void tellAll(SpoonShort x) {
        Check.tell(x, 0, TABLE);
        Check.tell(x, 1, "cards 0 1 2 3 0 1 2 3;");
        Check.tell(x, 1, "cards 3;");
        Check.tell(x, 2, "take 0;hand 0 2;");
        Check.tell(x, 3, "hold 1 2;gone 3;");
        Check.tell(x, 4, "frame 7 1;");
        Check.tell(x, 4, "frame 8;frame;");
        Check.tape(x, "take 0;");
    }

    private static void all(SpoonShort x) {
        int[] counts = {1, 2, 1, 1, 1};
        for (int sort = 0; sort < 5; sort++) {
            Check.due("count " + sort, x.count(sort), counts[sort]);
        }
        Check.due("FAULT", x.fault(0), 1);
        Check.due("place", x.fault(1), 13);
        Check.due("tape", x.end(7), 7);
        Check.due("no more tape", x.end(8), NONE);
        Check.due("people", x.table(0, 5), 3);
        Check.due("law", x.person(0, 1, 4), 2);
        Check.due("kind", x.person(0, 1, 5), 2);
        Check.due("jumpy", x.person(0, 2, 6), 1);
        Check.due("cards", x.card(0, NONE), 8);
        Check.due("card", x.card(1, 0), 3);
        Check.due("stop", x.stop(0, 0, 0), 2);
        Check.due("held", x.hand(0, 11), 2);
        Check.due("gone", x.hand(0, 100), 3);
        Check.due("frame", x.frame(0, 0, 1), 2);
        Check.due("fits", x.fits(0, 0), 1);
    }

    private static void changeAll(SpoonShort x) {
        x.end(3);
        Check.tell(x, 0, 0, "alike 3;person 1 1 0 0;person 1 1 0 0;");
        Check.tell(x, 1, 0, "cards 1;");
        Check.tell(x, 2, 0, "pass 1;");
        Check.tell(x, 2, "pass 2;");
        Check.tell(x, 3, 0, "hold 0;");
        Check.tell(x, 4, 0, "frame 9;");
        changed(x);
    }

    private static void changed(SpoonShort x) {
        Check.due("people", x.table(0, 5), 2);
        Check.due("law", x.person(0, 1, 4), 0);
        Check.due("cards", x.card(0, NONE), 1);
        Check.due("card", x.card(1, 0), 3);
        Check.due("books", x.count(2), 2);
        Check.due("deed", x.deed(1, 0, 1), 2);
        Check.due("held", x.hand(0, 0), 1);
        Check.due("gone", x.hand(0, 1), 0);
        Check.due("frame", x.frame(0, 0, 0), 9);
        Check.due("FAULT", x.fault(0), 0);
        Check.due("tape", x.end(1), NONE);
    }
}

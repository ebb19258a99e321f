import java.util.ArrayList;
import java.util.List;

/**
 * All that an object answers, a line a call, at some 300 calls: first what is asked without changing anything,
 * then what the acts' undoing, some nights' draws of rain and the tape show.
 */
final class Everything {
    private static final int DRAWS = 8;
    private final TileHeel x;
    private final List<String> lines = new ArrayList<>();

    private Everything(TileHeel x) {
        this.x = x;
    }

    static List<String> of(TileHeel x) {
        Everything all = new Everything(x);
        all.add("fault(0)", x.fault(0));
        all.add("fault(1)", x.fault(1));
        all.latestImage();
        return all.butForFault();
    }

    /** Behind town() the fault, behind image() the image is another one: these are left out. */
    static List<String> butForFault(TileHeel x) {
        Everything all = new Everything(x);
        all.latestImage();
        return all.butForFault();
    }

    static List<String> butForImage(TileHeel x) {
        return new Everything(x).butForFault();
    }

    private List<String> butForFault() {
        counts();
        lotsAndGaps();
        people();
        led();
        newImage();
        while (x.undo()) {
            add("undo", 1);
            newImage();
            led();
        }
        draws();
        tape();
        return lines;
    }

    private void add(String call, long answer) {
        lines.add(call + " = " + answer);
    }

    private void latestImage() {
        for (int k = 0; x.octet(k) != TileHeel.NONE; k++) {
            add("octet(" + k + ") ahead", x.octet(k));
        }
    }

    private void newImage() {
        add("image", x.image());
        for (int k = 0; x.octet(k) != TileHeel.NONE; k++) {
            add("octet(" + k + ")", x.octet(k));
        }
    }

    private void led() {
        int count = x.has(11);
        add("has(11)", count);
        for (int k = 0; k < count; k++) {
            for (int what = 0; what < 3; what++) {
                add("led(" + k + "," + what + ")", x.led(k, what));
            }
        }
    }

    private void counts() {
        for (int what = 0; what <= 12; what++) {
            add("has(" + what + ")", x.has(what));
        }
        for (int kind = 0; kind < 3; kind++) {
            for (int which = 0; x.letter(kind, which, 0) != TileHeel.NONE; which++) {
                add("letter(" + kind + "," + which + ",0)", x.letter(kind, which, 0));
            }
        }
    }

    private void lotsAndGaps() {
        for (int lot = 0; lot < x.has(1); lot++) {
            for (int what = 0; what < 7; what++) {
                add("lot(" + lot + "," + what + ")", x.lot(lot, what));
            }
            for (int other = 0; other < lot; other++) {
                add("gap(" + lot + "," + other + ")", x.gap(lot, other));
            }
        }
    }

    private void people() {
        for (int person = 0; person < x.has(3); person++) {
            for (int what = 0; what < 7; what++) {
                add("person(" + person + "," + what + ")", x.person(person, what));
            }
            add("way(" + person + ",-1)", x.way(person, TileHeel.NONE));
            add("toll(" + person + ",0)", x.toll(person, 0));
        }
        for (int owner = 0; owner < x.has(0); owner++) {
            add("purse(" + owner + ")", x.purse(owner));
        }
    }

    /** The seed shows by the nights in which it rains. */
    private void draws() {
        for (int k = 0; k < DRAWS; k++) {
            add("night", x.night());
            add("purse", x.purse(0));
        }
    }

    /** The tape shows by its length and by the town that it tells. */
    private void tape() {
        add("feed", x.feed(0x20202020, 0x20202020, 0x20202020, 0x20202020, 0x20202020));
        add("town", x.town());
        add("fault of the tape", x.fault(0));
        add("its place", x.fault(1));
        add("its name", x.letter(0, 0, 0));
    }
}

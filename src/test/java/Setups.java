import java.util.ArrayList;
import java.util.List;
import java.util.function.Supplier;

/** Objects in states of all sorts, to be asked what they refuse. */
final class Setups {
    final String name;
    final Supplier<FindersHide> make;
    final int places;
    final int seekers;
    final int week;

    private Setups(String name, Supplier<FindersHide> make) {
        this.name = name;
        this.make = make;
        FindersHide x = make.get();
        places = x.count(0);
        seekers = x.count(1);
        week = x.now(1);
    }

    static List<Setups> all() {
        List<Setups> l = new ArrayList<>();
        l.add(new Setups("new", FindersHide::new));
        l.add(new Setups("only typed", Setups::onlyTyped));
        l.add(new Setups("one place, nobody", () -> Check.told("place 9;")));
        l.add(new Setups("one of each", Setups::oneOfEach));
        l.add(new Setups("all full", Setups::allFull));
        l.add(new Setups("all full and marked", Setups::allFullAndMarked));
        l.add(new Setups("week 99", Setups::lastWeek));
        return l;
    }

    static FindersHide onlyTyped() {
        FindersHide x = new FindersHide();
        Check.type(x, "place 3;place 4");
        return x;
    }

    static FindersHide oneOfEach() {
        FindersHide x = Check.told("place 2;place 1;seeker 3 0 1;law 2;");
        x.lot(-5);
        x.week();
        x.saw(0, 0, 1);
        x.keep(1);
        return x;
    }

    /** Six PLACES, four SEEKERS with whole HABITS, eight SEEN, both IMAGES, THE TEXT full. */
    static FindersHide allFull() {
        FindersHide x = Check.told("place 3;place 1;place 3;place 2;place 9;place 1;"
            + "seeker 8 0 1 2 3 4;seeker 5 1 5 3 3 0;seeker 30 5 4 3 2 1;seeker 2 2 2 5 3 1;ring 5;law 2;");
        x.lot(12345);
        x.week();
        x.keep(0);
        x.week();
        x.looks(3, x.now(0));
        x.saw(0, 0, 0);
        x.keep(1);
        x.week();
        for (int i = 1; i < 8; i++) {
            x.saw(i % 3, 0, 0);
        }
        x.puts(1);
        Check.type(x, "place 5;seeker 7 0;ring 0" + " ".repeat(175));
        return x;
    }

    static FindersHide allFullAndMarked() {
        FindersHide x = allFull();
        x.mark(4, 3);
        x.mark(3, 0);
        return x;
    }

    static FindersHide lastWeek() {
        FindersHide x = Check.told("place 3;place 1;place 3;seeker 3 0 1;seeker 9 2 1;law 1;");
        for (int w = 0; w < 99; w++) {
            x.week();
        }
        x.saw(98, 1, 0);
        x.keep(0);
        return x;
    }
}

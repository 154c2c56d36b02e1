/** Two stenographers on one day; README.md shows this program and what it prints. */
public final class Example {
    public static void main(String[] args) {
        StenoRooms rooms = new StenoRooms();
        int ann = rooms.hire(4);                       // types 4 pages a slot
        int bob = rooms.hire(10);
        int trial = rooms.session(0, 0, 0, 6, 9);      // room 0, day 0, slots 0 to 5, 9 pages a slot
        int appeal = rooms.session(1, 0, 4, 3, 5);     // room 1, day 0, slots 4 to 6, 5 pages a slot
        rooms.give(trial, ann);
        tell("why Ann cannot be given the appeal", rooms.whyNot(appeal, ann));
        tell("who would be given it", rooms.whom(appeal));
        tell("sessions given by giveAll", rooms.giveAll());
        tell("stenographer of the appeal", rooms.sessionOf(appeal, 5));

        tell("transcripts on desks after a day, if nothing else is done", rooms.coming(1, 3));
        tell("fines of a day", rooms.run(1));
        tell("pages on Ann's desk", rooms.stenographer(ann, 4));
        tell("day on which the first of her transcripts is due", rooms.transcript(ann, 0, 1));
        tell("days until her desk is empty", rooms.emptyIn(ann));
        tell("pay of Bob", rooms.stenographer(bob, 6));
        rooms.undo();
        tell("today, when the day is taken back", rooms.about(2));

        try {
            rooms.hire(21);
        } catch (IllegalArgumentException e) {
            tell("stenographers, when one could not be hired", rooms.about(0));
        }

        rooms.save(0);
        rooms.cancel(trial);
        rooms.restore(0);
        tell("sessions, when the saved state is back", rooms.about(1));

        for (char c : "Jn04n10s0000069s1004035g000a".toCharArray()) {
            rooms.append(c);
        }
        tell("error position of the text", rooms.errorPosition());
        tell("commands left out by load", rooms.load());
        tell("stenographer of the appeal", rooms.sessionOf(appeal, 5));
    }

    private static void tell(String what, int number) {
        System.out.println(what + ": " + number);
    }
}

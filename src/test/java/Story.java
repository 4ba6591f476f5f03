/**
 * All that calls can find out about a room, as one text: also what digest() does not tell, and the saved states.
 * The telling uses rooms up, so it makes one for each saved state; it stays far below 512 calls of each.
 */
final class Story {
    private static final int HOURS_AHEAD = 6;

    private Story() {
    }

    static String of(Edges.Make make) {
        StringBuilder story = new StringBuilder();
        int states = 1 + Edges.savedIn(make);
        for (int undone = 0; undone < states; undone++) {
            RackMoves room = make.room();
            for (int i = 0; i < undone; i++) {
                story.append(" undo ").append(room.undo());
            }
            tell(room, story);
        }
        return story.toString();
    }

    private static void tell(RackMoves room, StringBuilder story) {
        story.append(" digest ").append(room.digest());
        int planned = room.plan();
        story.append(" plan ").append(planned).append(' ').append(room.digest());
        if (planned >= 0) {
            room.undo();
        }
        for (int tray = 0; tray < 5; tray++) {
            story.append(" tray ").append(room.setTray(tray, 0));
        }
        story.append(" text ").append(room.clearText());
        for (int hour = 0; hour < HOURS_AHEAD; hour++) {
            for (int machine = 0; machine < room.value(0); machine++) {
                story.append(' ').append(room.machine(machine, 6));
            }
            Check.thrownBy(() -> room.pass(1));
        }
    }
}

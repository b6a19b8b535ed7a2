/** Brings a text to an object by write(), as bytes of its signs. */
final class Texts {
    private Texts() {
    }

    static void put(PursesShare purses, String text) {
        for (int at = 0; at < text.length(); at += 8) {
            String piece = text.substring(at, Math.min(text.length(), at + 8));
            purses.write(piece.length(), asLong(piece));
        }
    }

    static long asLong(String piece) {
        long value = 0;
        for (int i = 0; i < piece.length(); i++) value = value << 8 | piece.charAt(i) & 255;
        return value;
    }

    /** A new object whose TOWN is this text; the purses that are given are filled. */
    static PursesShare town(String text, int... purses) {
        PursesShare made = new PursesShare();
        put(made, text);
        if (made.town() < 0) throw new IllegalArgumentException("no town: " + text);
        for (int person = 0; person < purses.length; person++) made.fill(person, purses[person]);
        return made;
    }

    static int faultOf(String text) {
        PursesShare made = new PursesShare();
        put(made, text);
        return made.fault();
    }
}

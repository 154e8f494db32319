/** A traveller pays an innkeeper a link a day with a chain of 23 links. */
public final class Inn {
    public static void main(String[] args) {
        LinkDays x = new LinkDays();                          // an open chain of one link of worth 1
        for (int i = 0; i < 22; i++) x.link(1);               // 23 links
        System.out.println("days without a cut: " + x.far());
        System.out.println("cuts for 23 days: " + x.fewest(23));
        x.cut(x.most(2, 0));                                  // the first row of 2 notches that come farthest
        x.cut(x.most(2, 1));
        for (int i = 0; i < x.count(3); i++) {
            System.out.println("piece " + i + ": link " + x.piece(i, 0) + " and on, worth " + x.piece(i, 2));
        }
        System.out.println("days: " + x.far() + ", with nothing given back: " + x.kept());
        System.out.println("two innkeepers: " + x.two(1));
        System.out.println("handed in 23 days: " + x.handed(23, 0));
        System.out.println("on the counter on day 8: pieces " + Integer.toBinaryString(x.handed(23, 8)));
        System.out.println("cut on days " + x.late(23, 0) + " and " + x.late(23, 1));

        x.image();                                            // chain and days are kept
        type(x, "b 3132 / 2");                                // a bar that is cut behind link 2
        System.out.println("links read: " + x.chain() + ", worth left: " + x.count(4));
        type(x, "o12/0,7");
        System.out.println("no such notch at byte " + (-20 - x.chain()));
        x.restore();                                          // 23 links again

        x.sheet(0, 1, 2);                                     // sheet 0: a row of 2 ints
        x.item(0, 1, 0, 6);                                   // pieces of worth 6 and 12 lie on a counter
        x.item(0, 1, 1, 12);
        System.out.println("by 2 cuts: " + x.seen(2, 0, 1, 0, 2, -1) + " ways, the first "
                + x.seen(2, 0, 1, 0, 2, 0) + ", " + x.seen(2, 0, 1, 0, 2, 1));
        System.out.println("sheet 1 holds nothing: " + (x.drop(1) == LinkDays.NULL));
    }

    /** Texts are typed by up to 8 bytes at a time. */
    private static void type(LinkDays x, String text) {
        for (char sign : text.toCharArray()) x.type(sign, 1);
    }
}

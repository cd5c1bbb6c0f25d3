/** setZoneLimit. */
public final class Promise06Test {
    public static void main(String[] args) {
        MeshRouter x = new MeshRouter();
        Check.due("setZoneLimit(1)", x.setZoneLimit(1), 70);
        Check.due("setZoneLimit(100)", x.setZoneLimit(100), 1);
        x.mark();
        Check.due("setZoneLimit(0)", x.setZoneLimit(0), MeshRouter.BAD_ARGUMENT);
        Check.due("setZoneLimit(101)", x.setZoneLimit(101), MeshRouter.BAD_ARGUMENT);
        Check.due("setZoneLimit(-5)", x.setZoneLimit(-5), MeshRouter.BAD_ARGUMENT);
        Check.due("play(0), still marked", x.play(0), 0);
        Check.due("setZoneLimit(100)", x.setZoneLimit(100), 100);
        Check.due("the same limit ends the marking", x.play(0), MeshRouter.NONE);
        Check.end();
    }
}
